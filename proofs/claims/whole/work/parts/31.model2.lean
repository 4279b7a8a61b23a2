theorem wm_8_2 : Cond.fieldLink RX11 83 "OrderEchoModel" "tape" "[I" ∈ wsL_law := in_r8 _ (mm_at 2 rfl)
theorem wm_8_3 : Cond.fieldLink RX11 86 "OrderEchoModel" "wordLetters" "[I" ∈ wsL_law := in_r8 _ (mm_at 3 rfl)
theorem wm_8_4 : Cond.fieldLink RX11 89 "OrderEchoModel" "stack" "[I" ∈ wsL_law := in_r8 _ (mm_at 4 rfl)
theorem wm_8_6 : Cond.fieldLink RX11 95 "OrderEchoModel" "tUp" "J" ∈ wsL_law := in_r8 _ (mm_at 6 rfl)
theorem wm_8_7 : Cond.fieldLink RX11 99 "OrderEchoModel" "tDown" "J" ∈ wsL_law := in_r8 _ (mm_at 7 rfl)
theorem wm_8_8 : Cond.fieldLink RX11 102 "OrderEchoModel" "aUp" "J" ∈ wsL_law := in_r8 _ (mm_at 8 rfl)
theorem wm_8_9 : Cond.fieldLink RX11 105 "OrderEchoModel" "aDown" "J" ∈ wsL_law := in_r8 _ (mm_at 9 rfl)
theorem wm_8_10 : Cond.fieldLink RX11 108 "OrderEchoModel" "times" "I" ∈ wsL_law := in_r8 _ (mm_at 10 rfl)
theorem wm_8_11 : Cond.fieldLink RX11 112 "OrderEchoModel" "echoUp" "[J" ∈ wsL_law := in_r8 _ (mm_at 11 rfl)
theorem wm_8_12 : Cond.fieldLink RX11 115 "OrderEchoModel" "echoDown" "[J" ∈ wsL_law := in_r8 _ (mm_at 12 rfl)
theorem wm_8_13 : Cond.fieldLink RX11 118 "OrderEchoModel" "belowUp" "[J" ∈ wsL_law := in_r8 _ (mm_at 13 rfl)
theorem wm_8_14 : Cond.fieldLink RX11 121 "OrderEchoModel" "belowDown" "[J" ∈ wsL_law := in_r8 _ (mm_at 14 rfl)
theorem wm_25_10 : Cond.constantLong RX11 252 (8) ∈ wsL_law := in_r25 _ (mm_at 10 rfl)
theorem wm_25_11 : Cond.fieldLink RX11 254 "OrderEchoModel" "taped" "I" ∈ wsL_law := in_r25 _ (mm_at 11 rfl)
theorem wm_25_12 : Cond.constantLong RX11 257 (255) ∈ wsL_law := in_r25 _ (mm_at 12 rfl)
theorem wm_30_6 : Cond.fieldLink RX11 259 "OrderEchoModel" "out" "I" ∈ wsL_law := in_r30 _ (mm_at 6 rfl)
theorem wm_30_7 : Cond.methodLink RX11 301 yX11_reads ∈ wsL_law := in_r30 _ (mm_at 7 rfl)
theorem wm_30_8 : Cond.instanceMethod yX11_reads ∈ wsL_law := in_r30 _ (mm_at 8 rfl)
theorem wm_30_9 : Cond.selects RX11 yX11_reads yX11_reads ∈ wsL_law := in_r30 _ (mm_at 9 rfl)
theorem wm_30_10 : Cond.code yX11_reads cX11_reads 6 (some .int) ∈ wsL_law := in_r30 _ (mm_at 10 rfl)
theorem wm_30_11 : Cond.fieldLink RX11 262 "OrderEchoModel" "deep" "I" ∈ wsL_law := in_r30 _ (mm_at 11 rfl)
theorem wm_30_12 : Cond.fieldLink RX11 289 "OrderEchoModel" "opens" "I" ∈ wsL_law := in_r30 _ (mm_at 12 rfl)
theorem wm_30_13 : Cond.methodLink RX11 295 yX11_operand ∈ wsL_law := in_r30 _ (mm_at 13 rfl)
theorem wm_30_14 : Cond.instanceMethod yX11_operand ∈ wsL_law := in_r30 _ (mm_at 14 rfl)
theorem wm_30_15 : Cond.selects RX11 yX11_operand yX11_operand ∈ wsL_law := in_r30 _ (mm_at 15 rfl)
theorem wm_30_16 : Cond.code yX11_operand cX11_operand 5 (some .int) ∈ wsL_law := in_r30 _ (mm_at 16 rfl)
theorem wm_30_17 : Cond.constantLong RX11 278 (48) ∈ wsL_law := in_r30 _ (mm_at 17 rfl)
theorem wm_30_18 : Cond.constantLong RX11 280 (57) ∈ wsL_law := in_r30 _ (mm_at 18 rfl)
theorem wm_30_19 : Cond.fieldLink RX11 275 "OrderEchoModel" "word" "I" ∈ wsL_law := in_r30 _ (mm_at 19 rfl)
theorem wm_30_20 : Cond.methodLink RX11 272 yX11_byteAt ∈ wsL_law := in_r30 _ (mm_at 20 rfl)
theorem wm_30_21 : Cond.instanceMethod yX11_byteAt ∈ wsL_law := in_r30 _ (mm_at 21 rfl)
theorem wm_30_22 : Cond.selects RX11 yX11_byteAt yX11_byteAt ∈ wsL_law := in_r30 _ (mm_at 22 rfl)
theorem wm_30_23 : Cond.code yX11_byteAt cX11_byteAt 2 (some .int) ∈ wsL_law := in_r30 _ (mm_at 23 rfl)
theorem wm_31_0 : Cond.methodLink RX11 269 yX11_puts ∈ wsL_law := in_r31 _ (mm_at 0 rfl)
theorem wm_31_1 : Cond.instanceMethod yX11_puts ∈ wsL_law := in_r31 _ (mm_at 1 rfl)
theorem wm_31_2 : Cond.selects RX11 yX11_puts yX11_puts ∈ wsL_law := in_r31 _ (mm_at 2 rfl)
theorem wm_31_3 : Cond.code yX11_puts cX11_puts 2 none ∈ wsL_law := in_r31 _ (mm_at 3 rfl)
theorem wm_31_4 : Cond.methodLink RX11 282 yX11_opensAt ∈ wsL_law := in_r31 _ (mm_at 4 rfl)
theorem wm_31_5 : Cond.instanceMethod yX11_opensAt ∈ wsL_law := in_r31 _ (mm_at 5 rfl)
theorem wm_31_6 : Cond.selects RX11 yX11_opensAt yX11_opensAt ∈ wsL_law := in_r31 _ (mm_at 6 rfl)
theorem wm_31_7 : Cond.code yX11_opensAt cX11_opensAt 3 (some .int) ∈ wsL_law := in_r31 _ (mm_at 7 rfl)
theorem wm_31_8 : Cond.methodLink RX11 286 yX11_readWord ∈ wsL_law := in_r31 _ (mm_at 8 rfl)
theorem wm_31_9 : Cond.instanceMethod yX11_readWord ∈ wsL_law := in_r31 _ (mm_at 9 rfl)
theorem wm_31_10 : Cond.selects RX11 yX11_readWord yX11_readWord ∈ wsL_law := in_r31 _ (mm_at 10 rfl)
theorem wm_31_11 : Cond.code yX11_readWord cX11_readWord 8 (some .int) ∈ wsL_law := in_r31 _ (mm_at 11 rfl)
theorem wm_31_12 : Cond.methodLink RX11 298 yX11_behind ∈ wsL_law := in_r31 _ (mm_at 12 rfl)
theorem wm_31_13 : Cond.instanceMethod yX11_behind ∈ wsL_law := in_r31 _ (mm_at 13 rfl)
theorem wm_31_14 : Cond.selects RX11 yX11_behind yX11_behind ∈ wsL_law := in_r31 _ (mm_at 14 rfl)
theorem wm_31_15 : Cond.code yX11_behind cX11_behind 5 (some .int) ∈ wsL_law := in_r31 _ (mm_at 15 rfl)
theorem wm_31_16 : Cond.methodLink RX11 265 yX11_rank ∈ wsL_law := in_r31 _ (mm_at 16 rfl)
theorem wm_31_17 : Cond.static yX11_rank ∈ wsL_law := in_r31 _ (mm_at 17 rfl)
theorem wm_31_18 : Cond.code yX11_rank cX11_rank 1 (some .int) ∈ wsL_law := in_r31 _ (mm_at 18 rfl)
theorem wm_31_19 : Cond.methodLink RX11 292 yX11_unwinds ∈ wsL_law := in_r31 _ (mm_at 19 rfl)
theorem wm_31_20 : Cond.instanceMethod yX11_unwinds ∈ wsL_law := in_r31 _ (mm_at 20 rfl)
theorem wm_31_21 : Cond.selects RX11 yX11_unwinds yX11_unwinds ∈ wsL_law := in_r31 _ (mm_at 21 rfl)
theorem wm_31_22 : Cond.code yX11_unwinds cX11_unwinds 2 none ∈ wsL_law := in_r31 _ (mm_at 22 rfl)
theorem wm_32_21 : Cond.instanceMethod yX11_swing ∈ wsL_law := in_r32 _ (mm_at 21 rfl)
theorem wm_32_22 : Cond.selects RX11 yX11_swing yX11_swing ∈ wsL_law := in_r32 _ (mm_at 22 rfl)
theorem wm_32_23 : Cond.code yX11_swing cX11_swing 11 (some .long) ∈ wsL_law := in_r32 _ (mm_at 23 rfl)
theorem wm_33_0 : Cond.constantLong RX11 323 (40) ∈ wsL_law := in_r33 _ (mm_at 0 rfl)
theorem wm_34_7 : Cond.constantLong RX11 332 (-9223372036854775807) ∈ wsL_law := in_r34 _ (mm_at 7 rfl)
theorem wm_34_8 : Cond.methodLink RX11 325 yX11_swing ∈ wsL_law := in_r34 _ (mm_at 8 rfl)
theorem wm_34_9 : Cond.methodLink RX11 328 yX11_divisor ∈ wsL_law := in_r34 _ (mm_at 9 rfl)
theorem wm_34_10 : Cond.static yX11_divisor ∈ wsL_law := in_r34 _ (mm_at 10 rfl)
theorem wm_34_11 : Cond.code yX11_divisor cX11_divisor 10 (some .long) ∈ wsL_law := in_r34 _ (mm_at 11 rfl)
theorem wm_35_2 : Cond.methodLink RX11 334 yX11_isPart ∈ wsL_law := in_r35 _ (mm_at 2 rfl)
theorem wm_35_3 : Cond.static yX11_isPart ∈ wsL_law := in_r35 _ (mm_at 3 rfl)
theorem wm_35_4 : Cond.code yX11_isPart cX11_isPart 1 (some .boolean) ∈ wsL_law := in_r35 _ (mm_at 4 rfl)
theorem wm_36_13 : Cond.constantLong RX11 370 (30) ∈ wsL_law := in_r36 _ (mm_at 13 rfl)
theorem wm_36_14 : Cond.fieldLink RX11 343 "OrderEchoModel" "isSpent" "Z" ∈ wsL_law := in_r36 _ (mm_at 14 rfl)
theorem wm_36_15 : Cond.methodLink RX11 372 yX11_findEchoes ∈ wsL_law := in_r36 _ (mm_at 15 rfl)
theorem wm_36_16 : Cond.instanceMethod yX11_findEchoes ∈ wsL_law := in_r36 _ (mm_at 16 rfl)
theorem wm_36_17 : Cond.selects RX11 yX11_findEchoes yX11_findEchoes ∈ wsL_law := in_r36 _ (mm_at 17 rfl)
theorem wm_36_18 : Cond.code yX11_findEchoes cX11_findEchoes 5 none ∈ wsL_law := in_r36 _ (mm_at 18 rfl)
theorem wm_36_19 : Cond.fieldLink RX11 351 "OrderEchoModel" "fUp" "J" ∈ wsL_law := in_r36 _ (mm_at 19 rfl)
theorem wm_36_20 : Cond.fieldLink RX11 354 "OrderEchoModel" "fDown" "J" ∈ wsL_law := in_r36 _ (mm_at 20 rfl)
theorem wm_36_21 : Cond.fieldLink RX11 357 "OrderEchoModel" "pUp" "J" ∈ wsL_law := in_r36 _ (mm_at 21 rfl)
theorem wm_36_22 : Cond.fieldLink RX11 360 "OrderEchoModel" "pDown" "J" ∈ wsL_law := in_r36 _ (mm_at 22 rfl)
theorem wm_36_23 : Cond.fieldLink RX11 337 "OrderEchoModel" "up" "J" ∈ wsL_law := in_r36 _ (mm_at 23 rfl)
theorem wm_37_0 : Cond.fieldLink RX11 340 "OrderEchoModel" "down" "J" ∈ wsL_law := in_r37 _ (mm_at 0 rfl)
theorem wm_37_1 : Cond.methodLink RX11 363 yX11_adds ∈ wsL_law := in_r37 _ (mm_at 1 rfl)
theorem wm_37_2 : Cond.instanceMethod yX11_adds ∈ wsL_law := in_r37 _ (mm_at 2 rfl)
theorem wm_37_3 : Cond.selects RX11 yX11_adds yX11_adds ∈ wsL_law := in_r37 _ (mm_at 3 rfl)
theorem wm_37_4 : Cond.code yX11_adds cX11_adds 9 none ∈ wsL_law := in_r37 _ (mm_at 4 rfl)
theorem wm_37_5 : Cond.methodLink RX11 347 yX11_lowest ∈ wsL_law := in_r37 _ (mm_at 5 rfl)
theorem wm_37_6 : Cond.instanceMethod yX11_lowest ∈ wsL_law := in_r37 _ (mm_at 6 rfl)
theorem wm_37_7 : Cond.selects RX11 yX11_lowest yX11_lowest ∈ wsL_law := in_r37 _ (mm_at 7 rfl)
theorem wm_37_8 : Cond.code yX11_lowest cX11_lowest 7 none ∈ wsL_law := in_r37 _ (mm_at 8 rfl)
theorem wm_37_9 : Cond.methodLink RX11 367 yX11_multiplies ∈ wsL_law := in_r37 _ (mm_at 9 rfl)
theorem wm_37_10 : Cond.instanceMethod yX11_multiplies ∈ wsL_law := in_r37 _ (mm_at 10 rfl)
theorem wm_37_11 : Cond.selects RX11 yX11_multiplies yX11_multiplies ∈ wsL_law := in_r37 _ (mm_at 11 rfl)
theorem wm_37_12 : Cond.code yX11_multiplies cX11_multiplies 17 none ∈ wsL_law := in_r37 _ (mm_at 12 rfl)
theorem wm_38_10 : Cond.methodLink RX11 375 yX11_findBelow ∈ wsL_law := in_r38 _ (mm_at 10 rfl)
theorem wm_38_11 : Cond.instanceMethod yX11_findBelow ∈ wsL_law := in_r38 _ (mm_at 11 rfl)
theorem wm_38_12 : Cond.selects RX11 yX11_findBelow yX11_findBelow ∈ wsL_law := in_r38 _ (mm_at 12 rfl)
theorem wm_38_13 : Cond.code yX11_findBelow cX11_findBelow 10 none ∈ wsL_law := in_r38 _ (mm_at 13 rfl)
section
variable {p : Program} {l : Launch} {e : Env} {s : State} {m : MethodId} {args : Array Value} {below : List Frame} {meth : Method} {c : Code} {D : va_G} {G : G3} {ad : Nat → Nat}
def fX11_feed_s76 (n : Nat)    (st : St) : Option (Int32 × St) := some (st.1 130 32, st)
set_option maxHeartbeats 4000000 in
set_option maxRecDepth 100000 in
theorem wX11_feed_s76 (C : Cx p s m args meth c cX11_feed 5 wsL_law RX11 (some .int) D G ad) (n : Nat)      (st : St) (res : (Int32 × St))  (hf : fX11_feed_s76 n    st = some res) : At p l e (rmK 1) s m args below meth c D G ad (MQI D G ad below args s res) 5 st [(0, .ref (ad 130))] 76 [] := by
  obtain ⟨hx, hb, hml, hown, hts, hr, hlk, hK, had, hSt⟩ := id C
  intro H locs ls hl hP hS
  unfold fX11_feed_s76 at hf
  refine lv_aload_n hx hb dX11_feed_76 rfl (lv_at hl 0 rfl) ?_
  refine g_getI hx hb hts inlX11 hown hK hP 130 ct_130 rfl 32 (by decide) (hts _ wm_25_11) rfl dX11_feed_77 ?_
  exact g_iret hx hb hr hlk hP hS dX11_feed_80 hf
def fX11_feed_s70 (n : Nat) (K34 : Int64 → Int32 → St → Option (Int32 × St))  (v1 : Int64) (v4 : Int32) (st : St) : Option (Int32 × St) := K34 v1 (v4 + (-1)) st
set_option maxHeartbeats 4000000 in
set_option maxRecDepth 100000 in
theorem wX11_feed_s70 (C : Cx p s m args meth c cX11_feed 5 wsL_law RX11 (some .int) D G ad) (n : Nat) (K34 : Int64 → Int32 → St → Option (Int32 × St))  (v1 : Int64) (v4 : Int32)   (st : St) (res : (Int32 × St)) (hK34 : ∀ (v1 : Int64) (v4 : Int32) (st : St), K34 v1 v4 st = some res → At p l e (rmK 1) s m args below meth c D G ad (MQI D G ad below args s res) 5 st [(0, .ref (ad 130)), (1, .long v1), (4, .int v4)] 34 []) (hf : fX11_feed_s70 n K34  v1 v4 st = some res) : At p l e (rmK 1) s m args below meth c D G ad (MQI D G ad below args s res) 5 st [(0, .ref (ad 130)), (1, .long v1), (4, .int v4)] 70 [] := by
  obtain ⟨hx, hb, hml, hown, hts, hr, hlk, hK, had, hSt⟩ := id C
  intro H locs ls hl hP hS
  unfold fX11_feed_s70 at hf
  refine lv_iinc (v := v4 + (-1)) (lv' := [(4, .int (v4 + (-1))), (0, .ref (ad 130)), (1, .long v1)]) hx hb dX11_feed_70 hl (k := 2) rfl rfl (by decide) rfl (fun ls hl => ?_)
  refine lv_goto (tgt := 34) hx hb dX11_feed_73 (by decide) ?_
  exact hK34 v1 (v4 + (-1))  st hf H locs ls (lv_sub hl [1, 2, 0] rfl) hP hS
def fX11_feed_s60 (n : Nat) (K34 : Int64 → Int32 → St → Option (Int32 × St))  (v1 : Int64) (v4 : Int32) (st : St) : Option (Int32 × St) := fX11_feed_s70 n K34 v1 v4 (setI st 130 32 ((st.1 130 32) + 1))
set_option maxHeartbeats 4000000 in
set_option maxRecDepth 100000 in
theorem wX11_feed_s60 (C : Cx p s m args meth c cX11_feed 5 wsL_law RX11 (some .int) D G ad) (n : Nat) (K34 : Int64 → Int32 → St → Option (Int32 × St))  (v1 : Int64) (v4 : Int32)   (st : St) (res : (Int32 × St)) (hK34 : ∀ (v1 : Int64) (v4 : Int32) (st : St), K34 v1 v4 st = some res → At p l e (rmK 1) s m args below meth c D G ad (MQI D G ad below args s res) 5 st [(0, .ref (ad 130)), (1, .long v1), (4, .int v4)] 34 []) (hf : fX11_feed_s60 n K34  v1 v4 st = some res) : At p l e (rmK 1) s m args below meth c D G ad (MQI D G ad below args s res) 5 st [(0, .ref (ad 130)), (1, .long v1), (4, .int v4)] 60 [] := by
  obtain ⟨hx, hb, hml, hown, hts, hr, hlk, hK, had, hSt⟩ := id C
  intro H locs ls hl hP hS
  unfold fX11_feed_s60 at hf
  refine lv_aload_n hx hb dX11_feed_60 rfl (lv_at hl 0 rfl) ?_
  refine lv_dup hx hb dX11_feed_61 rfl ?_
  refine g_getI hx hb hts inlX11 hown hK hP 130 ct_130 rfl 32 (by decide) (hts _ wm_25_11) rfl dX11_feed_62 ?_
  refine lv_iconst (v := 1) hx hb dX11_feed_65 (by decide) ?_
  refine lv_iadd hx hb dX11_feed_66 ?_
  refine g_putI hx hb hts inlX11 tyX11_ok nmX11 hown hK had hP hS 130 ct_130 rfl 32 (by decide) (hts _ wm_25_11) rfl rfl rfl rfl rfl dX11_feed_67 (fun H locs hP hS => ?_)
  exact wX11_feed_s70 C n K34 v1 v4 (setI st 130 32 ((st.1 130 32) + 1)) res hK34 hf H locs ls (lv_sub hl [0, 1, 2] rfl) hP hS
def fX11_feed_s39 (n : Nat) (K34 : Int64 → Int32 → St → Option (Int32 × St))  (v1 : Int64) (v4 : Int32) (st : St) : Option (Int32 × St) := if inb (st.1 130 32) 120 = true then (fX11_feed_s60 n K34 v1 v4 (setI st 155 (st.1 130 32).toNatClampNeg (((v1 >>> ((8 * v4).toInt64 &&& 63)) &&& 255).toInt32))) else none
set_option maxHeartbeats 4000000 in
set_option maxRecDepth 100000 in
theorem wX11_feed_s39 (C : Cx p s m args meth c cX11_feed 5 wsL_law RX11 (some .int) D G ad) (n : Nat) (K34 : Int64 → Int32 → St → Option (Int32 × St))  (v1 : Int64) (v4 : Int32)   (st : St) (res : (Int32 × St)) (hK34 : ∀ (v1 : Int64) (v4 : Int32) (st : St), K34 v1 v4 st = some res → At p l e (rmK 1) s m args below meth c D G ad (MQI D G ad below args s res) 5 st [(0, .ref (ad 130)), (1, .long v1), (4, .int v4)] 34 []) (hf : fX11_feed_s39 n K34  v1 v4 st = some res) : At p l e (rmK 1) s m args below meth c D G ad (MQI D G ad below args s res) 5 st [(0, .ref (ad 130)), (1, .long v1), (4, .int v4)] 39 [] := by
  obtain ⟨hx, hb, hml, hown, hts, hr, hlk, hK, had, hSt⟩ := id C
  intro H locs ls hl hP hS
  unfold fX11_feed_s39 at hf
  refine lv_aload_n hx hb dX11_feed_39 rfl (lv_at hl 0 rfl) ?_
  refine g_getR hx hb hts inlX11 hown hK hP 130 ct_130 rfl 31 (by decide) (hts _ wm_8_2) rfl dX11_feed_40 ?_
  refine lv_aload_n hx hb dX11_feed_43 rfl (lv_at hl 0 rfl) ?_
  refine g_getI hx hb hts inlX11 hown hK hP 130 ct_130 rfl 32 (by decide) (hts _ wm_25_11) rfl dX11_feed_44 ?_
  refine lv_lload_n hx hb dX11_feed_47 rfl (lv_at hl 1 rfl) ?_
  refine lv_bipush (v := 8) hx hb dX11_feed_48 (by decide) ?_
  refine lv_iload hx hb dX11_feed_50 (lv_at hl 2 rfl) ?_
  refine lv_imul hx hb dX11_feed_52 ?_
  refine lv_lshr hx hb dX11_feed_53 rfl ?_
  refine lv_ldc2 hx hb hown (hts _ wm_25_12) dX11_feed_54 ?_
  refine lv_land hx hb dX11_feed_57 ?_
  refine lv_l2i hx hb dX11_feed_58 rfl ?_
  obtain ⟨g1, hf⟩ := gd hf
  refine g_iast hx hb hK had hP hS 155 ct_155 g1 dX11_feed_59 (fun H locs hP hS => ?_)
  exact wX11_feed_s60 C n K34 v1 v4 (setI st 155 (st.1 130 32).toNatClampNeg (((v1 >>> ((8 * v4).toInt64 &&& 63)) &&& 255).toInt32)) res hK34 hf H locs ls (lv_sub hl [0, 1, 2] rfl) hP hS
def fX11_feed_s34 (n : Nat) (K34 : Int64 → Int32 → St → Option (Int32 × St))  (v1 : Int64) (v4 : Int32) (st : St) : Option (Int32 × St) := if v4 < 0 then fX11_feed_s76 n st else fX11_feed_s39 n K34 v1 v4 st
set_option maxHeartbeats 4000000 in
set_option maxRecDepth 100000 in
theorem wX11_feed_s34 (C : Cx p s m args meth c cX11_feed 5 wsL_law RX11 (some .int) D G ad) (n : Nat) (K34 : Int64 → Int32 → St → Option (Int32 × St))  (v1 : Int64) (v4 : Int32)   (st : St) (res : (Int32 × St)) (hK34 : ∀ (v1 : Int64) (v4 : Int32) (st : St), K34 v1 v4 st = some res → At p l e (rmK 1) s m args below meth c D G ad (MQI D G ad below args s res) 5 st [(0, .ref (ad 130)), (1, .long v1), (4, .int v4)] 34 []) (hf : fX11_feed_s34 n K34  v1 v4 st = some res) : At p l e (rmK 1) s m args below meth c D G ad (MQI D G ad below args s res) 5 st [(0, .ref (ad 130)), (1, .long v1), (4, .int v4)] 34 [] := by
  obtain ⟨hx, hb, hml, hown, hts, hr, hlk, hK, had, hSt⟩ := id C
  intro H locs ls hl hP hS
  unfold fX11_feed_s34 at hf
  refine lv_iload hx hb dX11_feed_34 (lv_at hl 2 rfl) ?_
  refine lv_if_lt (tgt := 76) hx hb dX11_feed_36 (by decide) (fun q => ?_) (fun q => ?_)
  · exact wX11_feed_s76 C n st res (it hf q) H locs ls (lv_sub hl [0] rfl) hP hS
  · exact wX11_feed_s39 C n K34 v1 v4 st res hK34 (ie hf q) H locs ls (lv_sub hl [0, 1, 2] rfl) hP hS
def fX11_feed_L34 (n : Nat)   : Nat → Int64 → Int32 → St → Option (Int32 × St)
  | 0, _, _, _ => none
  | k + 1, v1, v4, st => fX11_feed_s34 n (fX11_feed_L34 n k)  v1 v4 st
theorem wX11_feed_L34 (C : Cx p s m args meth c cX11_feed 5 wsL_law RX11 (some .int) D G ad) (n : Nat)    (res : (Int32 × St))  : ∀ (k : Nat) (v1 : Int64) (v4 : Int32)  (st : St), fX11_feed_L34 n k v1 v4 st = some res → At p l e (rmK 1) s m args below meth c D G ad (MQI D G ad below args s res) 5 st [(0, .ref (ad 130)), (1, .long v1), (4, .int v4)] 34 [] := by
  intro k
  induction k with
  | zero => intro v1 v4  st h; exact absurd h (by intro q; cases q)
  | succ k ih => intro v1 v4  st h; exact wX11_feed_s34 C n (fX11_feed_L34 n k)  v1 v4   st res ih h
def fX11_feed_s29 (n : Nat)   (v1 : Int64) (v3 : Int32) (st : St) : Option (Int32 × St) := fX11_feed_L34 n n v1 (v3 - 1) st
set_option maxHeartbeats 4000000 in
set_option maxRecDepth 100000 in
theorem wX11_feed_s29 (C : Cx p s m args meth c cX11_feed 5 wsL_law RX11 (some .int) D G ad) (n : Nat)   (v1 : Int64) (v3 : Int32)   (st : St) (res : (Int32 × St))  (hf : fX11_feed_s29 n   v1 v3 st = some res) : At p l e (rmK 1) s m args below meth c D G ad (MQI D G ad below args s res) 5 st [(0, .ref (ad 130)), (1, .long v1), (3, .int v3)] 29 [] := by
  obtain ⟨hx, hb, hml, hown, hts, hr, hlk, hK, had, hSt⟩ := id C
  intro H locs ls hl hP hS
  unfold fX11_feed_s29 at hf
  refine lv_iload_n hx hb dX11_feed_29 rfl (lv_at hl 2 rfl) ?_
  refine lv_iconst (v := 1) hx hb dX11_feed_30 (by decide) ?_
  refine lv_isub hx hb dX11_feed_31 ?_
  refine lv_istore (lv' := [(4, .int (v3 - 1)), (0, .ref (ad 130)), (1, .long v1), (3, .int v3)]) hx hb dX11_feed_32 hl (by decide) rfl (fun ls hl => ?_)
  exact wX11_feed_L34 C n res n v1 (v3 - 1) st hf H locs ls (lv_sub hl [1, 2, 0] rfl) hP hS
def fX11_feed_s26 (n : Nat)    (st : St) : Option (Int32 × St) := some ((-4), st)
set_option maxHeartbeats 4000000 in
set_option maxRecDepth 100000 in
theorem wX11_feed_s26 (C : Cx p s m args meth c cX11_feed 5 wsL_law RX11 (some .int) D G ad) (n : Nat)      (st : St) (res : (Int32 × St))  (hf : fX11_feed_s26 n    st = some res) : At p l e (rmK 1) s m args below meth c D G ad (MQI D G ad below args s res) 5 st [] 26 [] := by
  obtain ⟨hx, hb, hml, hown, hts, hr, hlk, hK, had, hSt⟩ := id C
  intro H locs ls hl hP hS
  unfold fX11_feed_s26 at hf
  refine lv_bipush (v := (-4)) hx hb dX11_feed_26 (by decide) ?_
  exact g_iret hx hb hr hlk hP hS dX11_feed_28 hf
def fX11_feed_s15 (n : Nat)   (v1 : Int64) (v3 : Int32) (st : St) : Option (Int32 × St) := if ((st.1 130 32) + v3) ≤ 120 then fX11_feed_s29 n v1 v3 st else fX11_feed_s26 n st
set_option maxHeartbeats 4000000 in
set_option maxRecDepth 100000 in
theorem wX11_feed_s15 (C : Cx p s m args meth c cX11_feed 5 wsL_law RX11 (some .int) D G ad) (n : Nat)   (v1 : Int64) (v3 : Int32)   (st : St) (res : (Int32 × St))  (hf : fX11_feed_s15 n   v1 v3 st = some res) : At p l e (rmK 1) s m args below meth c D G ad (MQI D G ad below args s res) 5 st [(0, .ref (ad 130)), (1, .long v1), (3, .int v3)] 15 [] := by
  obtain ⟨hx, hb, hml, hown, hts, hr, hlk, hK, had, hSt⟩ := id C
  intro H locs ls hl hP hS
  unfold fX11_feed_s15 at hf
  refine lv_aload_n hx hb dX11_feed_15 rfl (lv_at hl 0 rfl) ?_
  refine g_getI hx hb hts inlX11 hown hK hP 130 ct_130 rfl 32 (by decide) (hts _ wm_25_11) rfl dX11_feed_16 ?_
  refine lv_iload_n hx hb dX11_feed_19 rfl (lv_at hl 2 rfl) ?_
  refine lv_iadd hx hb dX11_feed_20 ?_
  refine lv_bipush (v := 120) hx hb dX11_feed_21 (by decide) ?_
  refine lv_icmp_le (tgt := 29) hx hb dX11_feed_23 (by decide) (fun q => ?_) (fun q => ?_)
  · exact wX11_feed_s29 C n v1 v3 st res (it hf q) H locs ls (lv_sub hl [0, 1, 2] rfl) hP hS
  · exact wX11_feed_s26 C n st res (ie hf q) H locs ls (lv_sub hl [] rfl) hP hS
def fX11_feed_s12 (n : Nat)    (st : St) : Option (Int32 × St) := some ((-2), st)
set_option maxHeartbeats 4000000 in
set_option maxRecDepth 100000 in
theorem wX11_feed_s12 (C : Cx p s m args meth c cX11_feed 5 wsL_law RX11 (some .int) D G ad) (n : Nat)      (st : St) (res : (Int32 × St))  (hf : fX11_feed_s12 n    st = some res) : At p l e (rmK 1) s m args below meth c D G ad (MQI D G ad below args s res) 5 st [] 12 [] := by
  obtain ⟨hx, hb, hml, hown, hts, hr, hlk, hK, had, hSt⟩ := id C
  intro H locs ls hl hP hS
  unfold fX11_feed_s12 at hf
  refine lv_bipush (v := (-2)) hx hb dX11_feed_12 (by decide) ?_
  exact g_iret hx hb hr hlk hP hS dX11_feed_14 hf
def fX11_feed_s9 (n : Nat)   (v1 : Int64) (v3 : Int32) (k0 : Int32) (st : St) : Option (Int32 × St) := if k0 = 0 then fX11_feed_s12 n st else fX11_feed_s15 n v1 v3 st
set_option maxHeartbeats 4000000 in
set_option maxRecDepth 100000 in
theorem wX11_feed_s9 (C : Cx p s m args meth c cX11_feed 5 wsL_law RX11 (some .int) D G ad) (n : Nat)   (v1 : Int64) (v3 : Int32) (k0 : Int32)   (st : St) (res : (Int32 × St))  (hf : fX11_feed_s9 n   v1 v3 k0 st = some res) : At p l e (rmK 1) s m args below meth c D G ad (MQI D G ad below args s res) 5 st [(0, .ref (ad 130)), (1, .long v1), (3, .int v3)] 9 [.int k0] := by
  obtain ⟨hx, hb, hml, hown, hts, hr, hlk, hK, had, hSt⟩ := id C
  intro H locs ls hl hP hS
  unfold fX11_feed_s9 at hf
  refine lv_if_ne (tgt := 15) hx hb dX11_feed_9 (by decide) (fun q => ?_) (fun q => ?_)
  · exact wX11_feed_s15 C n v1 v3 st res (ie hf q) H locs ls (lv_sub hl [0, 1, 2] rfl) hP hS
  · exact wX11_feed_s12 C n st res (it hf q) H locs ls (lv_sub hl [] rfl) hP hS
def fX11_feed_s0 (n : Nat)   (v1 : Int64) (v3 : Int32) (st : St) : Option (Int32 × St) := (fX11_in n v3.toInt64 1 8 st).bind (fun q => fX11_feed_s9 n v1 v3 q.1 q.2)
set_option maxHeartbeats 4000000 in
set_option maxRecDepth 100000 in
theorem wX11_feed_s0 (C : Cx p s m args meth c cX11_feed 5 wsL_law RX11 (some .int) D G ad) (n : Nat)   (v1 : Int64) (v3 : Int32)   (st : St) (res : (Int32 × St))  (hf : fX11_feed_s0 n   v1 v3 st = some res) : At p l e (rmK 1) s m args below meth c D G ad (MQI D G ad below args s res) 5 st [(0, .ref (ad 130)), (1, .long v1), (3, .int v3)] 0 [] := by
  obtain ⟨hx, hb, hml, hown, hts, hr, hlk, hK, had, hSt⟩ := id C
  intro H locs ls hl hP hS
  unfold fX11_feed_s0 at hf
  refine lv_iload_n hx hb dX11_feed_0 rfl (lv_at hl 2 rfl) ?_
  refine lv_i2l hx hb dX11_feed_1 rfl ?_
  refine lv_lconst (v := 1) hx hb dX11_feed_2 (by decide) ?_
  refine lv_ldc2 hx hb hown (hts _ wm_25_10) dX11_feed_3 ?_
  obtain ⟨q, hq, hf⟩ := bd hf
  refine gcS_i (k := 0) (As := [.long v3.toInt64, .long 1, .long 8]) (rest := []) hx hb hml hown hts hK hSt hP hS hl.1 (goodS wm_10_21 wm_10_22 wm_1_5 wm_10_23) okX11_in (Nat.le_of_ble_eq_true rfl) (Nat.le_of_ble_eq_true rfl) rfl rfl (Nat.le_of_ble_eq_true rfl) dX11_feed_6 (kX11_in l D G ad had n  v3.toInt64 1 8 st q hq) (fun H locs hP hS => ?_)
  exact wX11_feed_s9 C n v1 v3 q.1 q.2 res hf H locs ls (lv_sub hl [0, 1, 2] rfl) hP hS
def fX11_feed (n : Nat)  (a1 : Int64) (a3 : Int32) (st : St) : Option (Int32 × St) := fX11_feed_s0 n a1 a3 st
theorem okX11_feed : okY yX11_feed RX11 2 := by unfold okY; decide +kernel
end
set_option maxRecDepth 100000 in
theorem kX11_feed (l : Launch) (D : va_G) (G : G3) (ad : Nat → Nat) (had : Adr ad) (n : Nat)   (a1 : Int64) (a3 : Int32) (st : St) (res : (Int32 × St)) (hf : fX11_feed n  a1 a3 st = some res) {sz : Nat} : CtI l yX11_feed (wsU yX11_feed cX11_feed 5 (some .int)) (rmK 1) D G ad sz [.ref (ad 130), .long a1, .int a3] st res := by
  refine Met.ofW (cc := cX11_feed) (maxL := 5) (ret := (some .int)) (by decide) rfl ?_
  intro p e s m args below meth c s₁ B hml hv
  obtain ⟨rfl, hsz, hP, hK, hSt⟩ := hv
  have hts := atoms_spec (ws := wsU yX11_feed cX11_feed 5 (some .int)) B.pre
  have C : Cx p s m _ meth c cX11_feed 5 wsL_law RX11 (some .int) D G ad := ⟨B.exec, B.bytes, hml, findClass_of_methodNamed B.named, fun w h => hts w (List.mem_cons_of_mem _ h), B.returns, B.notSynchronized, hK, had, hSt⟩
  subst hsz
  have hl := lv_entry ([.ref (ad 130), .long a1, .int a3]) (n := 5) (Nat.le_of_ble_eq_true rfl)
  rw [lg_entry_eq]
  generalize (lg_sl ([.ref (ad 130), .long a1, .int a3]) ++ List.replicate (5 - (lg_sl ([.ref (ad 130), .long a1, .int a3])).length) Slot.unset).toArray = ls at hl ⊢
  exact wX11_feed_s0 C n  a1 a3   st res hf s.heap [] ls (lv_sub hl [0, 1, 2] rfl) hP va_S.rf
section
variable {p : Program} {l : Launch} {e : Env} {s : State} {m : MethodId} {args : Array Value} {below : List Frame} {meth : Method} {c : Code} {D : va_G} {G : G3} {ad : Nat → Nat}
def fX11_byteAt_s18 (n : Nat)   (k0 : Int32) (st : St) : Option (Int32 × St) := some (k0, st)
set_option maxHeartbeats 4000000 in
set_option maxRecDepth 100000 in
theorem wX11_byteAt_s18 (C : Cx p s m args meth c cX11_byteAt 2 wsL_law RX11 (some .int) D G ad) (n : Nat)   (k0 : Int32)   (st : St) (res : (Int32 × St))  (hf : fX11_byteAt_s18 n   k0 st = some res) : At p l e (rmK 0) s m args below meth c D G ad (MQI D G ad below args s res) 2 st [] 18 [.int k0] := by
  obtain ⟨hx, hb, hml, hown, hts, hr, hlk, hK, had, hSt⟩ := id C
  intro H locs ls hl hP hS
  unfold fX11_byteAt_s18 at hf
  exact g_iret hx hb hr hlk hP hS dX11_byteAt_18 hf
def fX11_byteAt_s17 (n : Nat)    (st : St) : Option (Int32 × St) := fX11_byteAt_s18 n (-1) st
set_option maxHeartbeats 4000000 in
set_option maxRecDepth 100000 in
theorem wX11_byteAt_s17 (C : Cx p s m args meth c cX11_byteAt 2 wsL_law RX11 (some .int) D G ad) (n : Nat)      (st : St) (res : (Int32 × St))  (hf : fX11_byteAt_s17 n    st = some res) : At p l e (rmK 0) s m args below meth c D G ad (MQI D G ad below args s res) 2 st [] 17 [] := by
  obtain ⟨hx, hb, hml, hown, hts, hr, hlk, hK, had, hSt⟩ := id C
  intro H locs ls hl hP hS
  unfold fX11_byteAt_s17 at hf
  refine lv_iconst (v := (-1)) hx hb dX11_byteAt_17 (by decide) ?_
  exact wX11_byteAt_s18 C n (-1) st res hf H locs ls (lv_sub hl [] rfl) hP hS
def fX11_byteAt_s8 (n : Nat)   (v1 : Int32) (st : St) : Option (Int32 × St) := if inb v1 120 = true then (fX11_byteAt_s18 n (st.1 155 v1.toNatClampNeg) st) else none
set_option maxHeartbeats 4000000 in
set_option maxRecDepth 100000 in
theorem wX11_byteAt_s8 (C : Cx p s m args meth c cX11_byteAt 2 wsL_law RX11 (some .int) D G ad) (n : Nat)   (v1 : Int32)   (st : St) (res : (Int32 × St))  (hf : fX11_byteAt_s8 n   v1 st = some res) : At p l e (rmK 0) s m args below meth c D G ad (MQI D G ad below args s res) 2 st [(0, .ref (ad 130)), (1, .int v1)] 8 [] := by
  obtain ⟨hx, hb, hml, hown, hts, hr, hlk, hK, had, hSt⟩ := id C
  intro H locs ls hl hP hS
  unfold fX11_byteAt_s8 at hf
  refine lv_aload_n hx hb dX11_byteAt_8 rfl (lv_at hl 0 rfl) ?_
  refine g_getR hx hb hts inlX11 hown hK hP 130 ct_130 rfl 31 (by decide) (hts _ wm_8_2) rfl dX11_byteAt_9 ?_
  refine lv_iload_n hx hb dX11_byteAt_12 rfl (lv_at hl 1 rfl) ?_
  obtain ⟨g1, hf⟩ := gd hf
  refine g_iald hx hb hK hP 155 ct_155 g1 dX11_byteAt_13 ?_
  refine lv_goto (tgt := 18) hx hb dX11_byteAt_14 (by decide) ?_
  exact wX11_byteAt_s18 C n (st.1 155 v1.toNatClampNeg) st res hf H locs ls (lv_sub hl [] rfl) hP hS
def fX11_byteAt_s0 (n : Nat)   (v1 : Int32) (st : St) : Option (Int32 × St) := if (st.1 130 32) ≤ v1 then fX11_byteAt_s17 n st else fX11_byteAt_s8 n v1 st
set_option maxHeartbeats 4000000 in
set_option maxRecDepth 100000 in
theorem wX11_byteAt_s0 (C : Cx p s m args meth c cX11_byteAt 2 wsL_law RX11 (some .int) D G ad) (n : Nat)   (v1 : Int32)   (st : St) (res : (Int32 × St))  (hf : fX11_byteAt_s0 n   v1 st = some res) : At p l e (rmK 0) s m args below meth c D G ad (MQI D G ad below args s res) 2 st [(0, .ref (ad 130)), (1, .int v1)] 0 [] := by
  obtain ⟨hx, hb, hml, hown, hts, hr, hlk, hK, had, hSt⟩ := id C
  intro H locs ls hl hP hS
  unfold fX11_byteAt_s0 at hf
  refine lv_iload_n hx hb dX11_byteAt_0 rfl (lv_at hl 1 rfl) ?_
  refine lv_aload_n hx hb dX11_byteAt_1 rfl (lv_at hl 0 rfl) ?_
  refine g_getI hx hb hts inlX11 hown hK hP 130 ct_130 rfl 32 (by decide) (hts _ wm_25_11) rfl dX11_byteAt_2 ?_
  refine lv_icmp_ge (tgt := 17) hx hb dX11_byteAt_5 (by decide) (fun q => ?_) (fun q => ?_)
  · exact wX11_byteAt_s17 C n st res (it hf q) H locs ls (lv_sub hl [] rfl) hP hS
  · exact wX11_byteAt_s8 C n v1 st res (ie hf q) H locs ls (lv_sub hl [0, 1] rfl) hP hS
def fX11_byteAt (n : Nat)  (a1 : Int32) (st : St) : Option (Int32 × St) := fX11_byteAt_s0 n a1 st
theorem okX11_byteAt : okY yX11_byteAt RX11 1 := by unfold okY; decide +kernel
end
set_option maxRecDepth 100000 in
theorem kX11_byteAt (l : Launch) (D : va_G) (G : G3) (ad : Nat → Nat) (had : Adr ad) (n : Nat)   (a1 : Int32) (st : St) (res : (Int32 × St)) (hf : fX11_byteAt n  a1 st = some res) {sz : Nat} : CtI l yX11_byteAt (wsU yX11_byteAt cX11_byteAt 2 (some .int)) (rmK 0) D G ad sz [.ref (ad 130), .int a1] st res := by
  refine Met.ofW (cc := cX11_byteAt) (maxL := 2) (ret := (some .int)) (by decide) rfl ?_
  intro p e s m args below meth c s₁ B hml hv
  obtain ⟨rfl, hsz, hP, hK, hSt⟩ := hv
  have hts := atoms_spec (ws := wsU yX11_byteAt cX11_byteAt 2 (some .int)) B.pre
  have C : Cx p s m _ meth c cX11_byteAt 2 wsL_law RX11 (some .int) D G ad := ⟨B.exec, B.bytes, hml, findClass_of_methodNamed B.named, fun w h => hts w (List.mem_cons_of_mem _ h), B.returns, B.notSynchronized, hK, had, hSt⟩
  subst hsz
  have hl := lv_entry ([.ref (ad 130), .int a1]) (n := 2) (Nat.le_of_ble_eq_true rfl)
  rw [lg_entry_eq]
  generalize (lg_sl ([.ref (ad 130), .int a1]) ++ List.replicate (2 - (lg_sl ([.ref (ad 130), .int a1])).length) Slot.unset).toArray = ls at hl ⊢
  exact wX11_byteAt_s0 C n  a1   st res hf s.heap [] ls (lv_sub hl [0, 1] rfl) hP va_S.rf
section
variable {p : Program} {l : Launch} {e : Env} {s : State} {m : MethodId} {args : Array Value} {below : List Frame} {meth : Method} {c : Code} {D : va_G} {G : G3} {ad : Nat → Nat}
def fX11_puts_s28 (n : Nat)    (st : St) : Option (Unit × St) := some ((), st)
set_option maxHeartbeats 4000000 in
set_option maxRecDepth 100000 in
theorem wX11_puts_s28 (C : Cx p s m args meth c cX11_puts 2 wsL_law RX11 none D G ad) (n : Nat)      (st : St) (res : (Unit × St))  (hf : fX11_puts_s28 n    st = some res) : At p l e (rmK 0) s m args below meth c D G ad (MQV D G ad below args s res) 2 st [] 28 [] := by
  obtain ⟨hx, hb, hml, hown, hts, hr, hlk, hK, had, hSt⟩ := id C
  intro H locs ls hl hP hS
  unfold fX11_puts_s28 at hf
  exact g_vret hx hb hr hlk hP hS dX11_puts_28 hf
def fX11_puts_s18 (n : Nat)    (st : St) : Option (Unit × St) := fX11_puts_s28 n (setI st 130 37 ((st.1 130 37) + 1))
set_option maxHeartbeats 4000000 in
set_option maxRecDepth 100000 in
theorem wX11_puts_s18 (C : Cx p s m args meth c cX11_puts 2 wsL_law RX11 none D G ad) (n : Nat)      (st : St) (res : (Unit × St))  (hf : fX11_puts_s18 n    st = some res) : At p l e (rmK 0) s m args below meth c D G ad (MQV D G ad below args s res) 2 st [(0, .ref (ad 130))] 18 [] := by
  obtain ⟨hx, hb, hml, hown, hts, hr, hlk, hK, had, hSt⟩ := id C
  intro H locs ls hl hP hS
  unfold fX11_puts_s18 at hf
  refine lv_aload_n hx hb dX11_puts_18 rfl (lv_at hl 0 rfl) ?_
  refine lv_dup hx hb dX11_puts_19 rfl ?_
  refine g_getI hx hb hts inlX11 hown hK hP 130 ct_130 rfl 37 (by decide) (hts _ wm_30_6) rfl dX11_puts_20 ?_
  refine lv_iconst (v := 1) hx hb dX11_puts_23 (by decide) ?_
  refine lv_iadd hx hb dX11_puts_24 ?_
  refine g_putI hx hb hts inlX11 tyX11_ok nmX11 hown hK had hP hS 130 ct_130 rfl 37 (by decide) (hts _ wm_30_6) rfl rfl rfl rfl rfl dX11_puts_25 (fun H locs hP hS => ?_)
  exact wX11_puts_s28 C n (setI st 130 37 ((st.1 130 37) + 1)) res hf H locs ls (lv_sub hl [] rfl) hP hS
def fX11_puts_s0 (n : Nat)   (v1 : Int32) (st : St) : Option (Unit × St) := if inb ((120 * (st.1 130 28)) + (st.1 130 37)) 1440 = true then (fX11_puts_s18 n (setI st 154 ((120 * (st.1 130 28)) + (st.1 130 37)).toNatClampNeg v1)) else none
set_option maxHeartbeats 4000000 in
set_option maxRecDepth 100000 in
theorem wX11_puts_s0 (C : Cx p s m args meth c cX11_puts 2 wsL_law RX11 none D G ad) (n : Nat)   (v1 : Int32)   (st : St) (res : (Unit × St))  (hf : fX11_puts_s0 n   v1 st = some res) : At p l e (rmK 0) s m args below meth c D G ad (MQV D G ad below args s res) 2 st [(0, .ref (ad 130)), (1, .int v1)] 0 [] := by
  obtain ⟨hx, hb, hml, hown, hts, hr, hlk, hK, had, hSt⟩ := id C
  intro H locs ls hl hP hS
  unfold fX11_puts_s0 at hf
  refine lv_aload_n hx hb dX11_puts_0 rfl (lv_at hl 0 rfl) ?_
  refine g_getR hx hb hts inlX11 hown hK hP 130 ct_130 rfl 30 (by decide) (hts _ wm_8_1) rfl dX11_puts_1 ?_
  refine lv_bipush (v := 120) hx hb dX11_puts_4 (by decide) ?_
  refine lv_aload_n hx hb dX11_puts_6 rfl (lv_at hl 0 rfl) ?_
  refine g_getI hx hb hts inlX11 hown hK hP 130 ct_130 rfl 28 (by decide) (hts _ wm_12_5) rfl dX11_puts_7 ?_
  refine lv_imul hx hb dX11_puts_10 ?_
  refine lv_aload_n hx hb dX11_puts_11 rfl (lv_at hl 0 rfl) ?_
  refine g_getI hx hb hts inlX11 hown hK hP 130 ct_130 rfl 37 (by decide) (hts _ wm_30_6) rfl dX11_puts_12 ?_
  refine lv_iadd hx hb dX11_puts_15 ?_
  refine lv_iload_n hx hb dX11_puts_16 rfl (lv_at hl 1 rfl) ?_
  obtain ⟨g1, hf⟩ := gd hf
  refine g_iast hx hb hK had hP hS 154 ct_154 g1 dX11_puts_17 (fun H locs hP hS => ?_)
  exact wX11_puts_s18 C n (setI st 154 ((120 * (st.1 130 28)) + (st.1 130 37)).toNatClampNeg v1) res hf H locs ls (lv_sub hl [0] rfl) hP hS
def fX11_puts (n : Nat)  (a1 : Int32) (st : St) : Option (Unit × St) := fX11_puts_s0 n a1 st
theorem okX11_puts : okY yX11_puts RX11 1 := by unfold okY; decide +kernel
end
set_option maxRecDepth 100000 in
theorem kX11_puts (l : Launch) (D : va_G) (G : G3) (ad : Nat → Nat) (had : Adr ad) (n : Nat)   (a1 : Int32) (st : St) (res : (Unit × St)) (hf : fX11_puts n  a1 st = some res) {sz : Nat} : CtV l yX11_puts (wsU yX11_puts cX11_puts 2 none) (rmK 0) D G ad sz [.ref (ad 130), .int a1] st res := by
  refine Met.ofW (cc := cX11_puts) (maxL := 2) (ret := none) (by decide) rfl ?_
  intro p e s m args below meth c s₁ B hml hv
  obtain ⟨rfl, hsz, hP, hK, hSt⟩ := hv
  have hts := atoms_spec (ws := wsU yX11_puts cX11_puts 2 none) B.pre
  have C : Cx p s m _ meth c cX11_puts 2 wsL_law RX11 none D G ad := ⟨B.exec, B.bytes, hml, findClass_of_methodNamed B.named, fun w h => hts w (List.mem_cons_of_mem _ h), B.returns, B.notSynchronized, hK, had, hSt⟩
  subst hsz
  have hl := lv_entry ([.ref (ad 130), .int a1]) (n := 2) (Nat.le_of_ble_eq_true rfl)
  rw [lg_entry_eq]
  generalize (lg_sl ([.ref (ad 130), .int a1]) ++ List.replicate (2 - (lg_sl ([.ref (ad 130), .int a1])).length) Slot.unset).toArray = ls at hl ⊢
  exact wX11_puts_s0 C n  a1   st res hf s.heap [] ls (lv_sub hl [0, 1] rfl) hP va_S.rf
section
variable {p : Program} {l : Launch} {e : Env} {s : State} {m : MethodId} {args : Array Value} {below : List Frame} {meth : Method} {c : Code} {D : va_G} {G : G3} {ad : Nat → Nat}
def fX11_rank_s33 (n : Nat)   (k0 : Int32) (st : St) : Option (Int32 × St) := some (k0, st)
set_option maxHeartbeats 4000000 in
set_option maxRecDepth 100000 in
theorem wX11_rank_s33 (C : Cx p s m args meth c cX11_rank 1 wsL_law RX11 (some .int) D G ad) (n : Nat)   (k0 : Int32)   (st : St) (res : (Int32 × St))  (hf : fX11_rank_s33 n   k0 st = some res) : At p l e (rmK 0) s m args below meth c D G ad (MQI D G ad below args s res) 1 st [] 33 [.int k0] := by
  obtain ⟨hx, hb, hml, hown, hts, hr, hlk, hK, had, hSt⟩ := id C
  intro H locs ls hl hP hS
  unfold fX11_rank_s33 at hf
  exact g_iret hx hb hr hlk hP hS dX11_rank_33 hf
def fX11_rank_s12 (n : Nat)    (st : St) : Option (Int32 × St) := fX11_rank_s33 n 1 st
set_option maxHeartbeats 4000000 in
set_option maxRecDepth 100000 in
theorem wX11_rank_s12 (C : Cx p s m args meth c cX11_rank 1 wsL_law RX11 (some .int) D G ad) (n : Nat)      (st : St) (res : (Int32 × St))  (hf : fX11_rank_s12 n    st = some res) : At p l e (rmK 0) s m args below meth c D G ad (MQI D G ad below args s res) 1 st [] 12 [] := by
  obtain ⟨hx, hb, hml, hown, hts, hr, hlk, hK, had, hSt⟩ := id C
  intro H locs ls hl hP hS
  unfold fX11_rank_s12 at hf
  refine lv_iconst (v := 1) hx hb dX11_rank_12 (by decide) ?_
  refine lv_goto (tgt := 33) hx hb dX11_rank_13 (by decide) ?_
  exact wX11_rank_s33 C n 1 st res hf H locs ls (lv_sub hl [] rfl) hP hS
def fX11_rank_s28 (n : Nat)    (st : St) : Option (Int32 × St) := fX11_rank_s33 n 2 st
set_option maxHeartbeats 4000000 in
set_option maxRecDepth 100000 in
theorem wX11_rank_s28 (C : Cx p s m args meth c cX11_rank 1 wsL_law RX11 (some .int) D G ad) (n : Nat)      (st : St) (res : (Int32 × St))  (hf : fX11_rank_s28 n    st = some res) : At p l e (rmK 0) s m args below meth c D G ad (MQI D G ad below args s res) 1 st [] 28 [] := by
  obtain ⟨hx, hb, hml, hown, hts, hr, hlk, hK, had, hSt⟩ := id C
  intro H locs ls hl hP hS
  unfold fX11_rank_s28 at hf
  refine lv_iconst (v := 2) hx hb dX11_rank_28 (by decide) ?_
  refine lv_goto (tgt := 33) hx hb dX11_rank_29 (by decide) ?_
  exact wX11_rank_s33 C n 2 st res hf H locs ls (lv_sub hl [] rfl) hP hS
def fX11_rank_s32 (n : Nat)    (st : St) : Option (Int32 × St) := fX11_rank_s33 n 0 st
set_option maxHeartbeats 4000000 in
set_option maxRecDepth 100000 in
theorem wX11_rank_s32 (C : Cx p s m args meth c cX11_rank 1 wsL_law RX11 (some .int) D G ad) (n : Nat)      (st : St) (res : (Int32 × St))  (hf : fX11_rank_s32 n    st = some res) : At p l e (rmK 0) s m args below meth c D G ad (MQI D G ad below args s res) 1 st [] 32 [] := by
  obtain ⟨hx, hb, hml, hown, hts, hr, hlk, hK, had, hSt⟩ := id C
  intro H locs ls hl hP hS
  unfold fX11_rank_s32 at hf
  refine lv_iconst (v := 0) hx hb dX11_rank_32 (by decide) ?_
  exact wX11_rank_s33 C n 0 st res hf H locs ls (lv_sub hl [] rfl) hP hS
def fX11_rank_s22 (n : Nat)   (v0 : Int32) (st : St) : Option (Int32 × St) := if v0 = 47 then fX11_rank_s28 n st else fX11_rank_s32 n st
set_option maxHeartbeats 4000000 in
set_option maxRecDepth 100000 in
theorem wX11_rank_s22 (C : Cx p s m args meth c cX11_rank 1 wsL_law RX11 (some .int) D G ad) (n : Nat)   (v0 : Int32)   (st : St) (res : (Int32 × St))  (hf : fX11_rank_s22 n   v0 st = some res) : At p l e (rmK 0) s m args below meth c D G ad (MQI D G ad below args s res) 1 st [(0, .int v0)] 22 [] := by
  obtain ⟨hx, hb, hml, hown, hts, hr, hlk, hK, had, hSt⟩ := id C
  intro H locs ls hl hP hS
  unfold fX11_rank_s22 at hf
  refine lv_iload_n hx hb dX11_rank_22 rfl (lv_at hl 0 rfl) ?_
  refine lv_bipush (v := 47) hx hb dX11_rank_23 (by decide) ?_
  refine lv_icmp_ne (tgt := 32) hx hb dX11_rank_25 (by decide) (fun q => ?_) (fun q => ?_)
  · exact wX11_rank_s32 C n st res (ie hf q) H locs ls (lv_sub hl [] rfl) hP hS
  · exact wX11_rank_s28 C n st res (it hf q) H locs ls (lv_sub hl [] rfl) hP hS
def fX11_rank_s16 (n : Nat)   (v0 : Int32) (st : St) : Option (Int32 × St) := if v0 = 42 then fX11_rank_s28 n st else fX11_rank_s22 n v0 st
set_option maxHeartbeats 4000000 in
set_option maxRecDepth 100000 in
theorem wX11_rank_s16 (C : Cx p s m args meth c cX11_rank 1 wsL_law RX11 (some .int) D G ad) (n : Nat)   (v0 : Int32)   (st : St) (res : (Int32 × St))  (hf : fX11_rank_s16 n   v0 st = some res) : At p l e (rmK 0) s m args below meth c D G ad (MQI D G ad below args s res) 1 st [(0, .int v0)] 16 [] := by
  obtain ⟨hx, hb, hml, hown, hts, hr, hlk, hK, had, hSt⟩ := id C
  intro H locs ls hl hP hS
  unfold fX11_rank_s16 at hf
  refine lv_iload_n hx hb dX11_rank_16 rfl (lv_at hl 0 rfl) ?_
  refine lv_bipush (v := 42) hx hb dX11_rank_17 (by decide) ?_
  refine lv_icmp_eq (tgt := 28) hx hb dX11_rank_19 (by decide) (fun q => ?_) (fun q => ?_)
  · exact wX11_rank_s28 C n st res (it hf q) H locs ls (lv_sub hl [] rfl) hP hS
  · exact wX11_rank_s22 C n v0 st res (ie hf q) H locs ls (lv_sub hl [0] rfl) hP hS
def fX11_rank_s6 (n : Nat)   (v0 : Int32) (st : St) : Option (Int32 × St) := if v0 = 45 then fX11_rank_s12 n st else fX11_rank_s16 n v0 st
set_option maxHeartbeats 4000000 in
set_option maxRecDepth 100000 in
theorem wX11_rank_s6 (C : Cx p s m args meth c cX11_rank 1 wsL_law RX11 (some .int) D G ad) (n : Nat)   (v0 : Int32)   (st : St) (res : (Int32 × St))  (hf : fX11_rank_s6 n   v0 st = some res) : At p l e (rmK 0) s m args below meth c D G ad (MQI D G ad below args s res) 1 st [(0, .int v0)] 6 [] := by
  obtain ⟨hx, hb, hml, hown, hts, hr, hlk, hK, had, hSt⟩ := id C
  intro H locs ls hl hP hS
  unfold fX11_rank_s6 at hf
  refine lv_iload_n hx hb dX11_rank_6 rfl (lv_at hl 0 rfl) ?_
  refine lv_bipush (v := 45) hx hb dX11_rank_7 (by decide) ?_
  refine lv_icmp_ne (tgt := 16) hx hb dX11_rank_9 (by decide) (fun q => ?_) (fun q => ?_)
  · exact wX11_rank_s16 C n v0 st res (ie hf q) H locs ls (lv_sub hl [0] rfl) hP hS
  · exact wX11_rank_s12 C n st res (it hf q) H locs ls (lv_sub hl [] rfl) hP hS
def fX11_rank_s0 (n : Nat)   (v0 : Int32) (st : St) : Option (Int32 × St) := if v0 = 43 then fX11_rank_s12 n st else fX11_rank_s6 n v0 st
set_option maxHeartbeats 4000000 in
set_option maxRecDepth 100000 in
theorem wX11_rank_s0 (C : Cx p s m args meth c cX11_rank 1 wsL_law RX11 (some .int) D G ad) (n : Nat)   (v0 : Int32)   (st : St) (res : (Int32 × St))  (hf : fX11_rank_s0 n   v0 st = some res) : At p l e (rmK 0) s m args below meth c D G ad (MQI D G ad below args s res) 1 st [(0, .int v0)] 0 [] := by
  obtain ⟨hx, hb, hml, hown, hts, hr, hlk, hK, had, hSt⟩ := id C
  intro H locs ls hl hP hS
  unfold fX11_rank_s0 at hf
  refine lv_iload_n hx hb dX11_rank_0 rfl (lv_at hl 0 rfl) ?_
  refine lv_bipush (v := 43) hx hb dX11_rank_1 (by decide) ?_
  refine lv_icmp_eq (tgt := 12) hx hb dX11_rank_3 (by decide) (fun q => ?_) (fun q => ?_)
  · exact wX11_rank_s12 C n st res (it hf q) H locs ls (lv_sub hl [] rfl) hP hS
  · exact wX11_rank_s6 C n v0 st res (ie hf q) H locs ls (lv_sub hl [0] rfl) hP hS
def fX11_rank (n : Nat)  (a0 : Int32) (st : St) : Option (Int32 × St) := fX11_rank_s0 n a0 st
theorem okX11_rank : okY yX11_rank RX11 1 := by unfold okY; decide +kernel
end
set_option maxRecDepth 100000 in
theorem kX11_rank (l : Launch) (D : va_G) (G : G3) (ad : Nat → Nat) (had : Adr ad) (n : Nat)   (a0 : Int32) (st : St) (res : (Int32 × St)) (hf : fX11_rank n  a0 st = some res) {sz : Nat} : CtI l yX11_rank (wsU yX11_rank cX11_rank 1 (some .int)) (rmK 0) D G ad sz [.int a0] st res := by
  refine Met.ofW (cc := cX11_rank) (maxL := 1) (ret := (some .int)) (by decide) rfl ?_
  intro p e s m args below meth c s₁ B hml hv
  obtain ⟨rfl, hsz, hP, hK, hSt⟩ := hv
  have hts := atoms_spec (ws := wsU yX11_rank cX11_rank 1 (some .int)) B.pre
  have C : Cx p s m _ meth c cX11_rank 1 wsL_law RX11 (some .int) D G ad := ⟨B.exec, B.bytes, hml, findClass_of_methodNamed B.named, fun w h => hts w (List.mem_cons_of_mem _ h), B.returns, B.notSynchronized, hK, had, hSt⟩
  subst hsz
  have hl := lv_entry ([.int a0]) (n := 1) (Nat.le_of_ble_eq_true rfl)
  rw [lg_entry_eq]
  generalize (lg_sl ([.int a0]) ++ List.replicate (1 - (lg_sl ([.int a0])).length) Slot.unset).toArray = ls at hl ⊢
  exact wX11_rank_s0 C n  a0   st res hf s.heap [] ls (lv_sub hl [0] rfl) hP va_S.rf
section
variable {p : Program} {l : Launch} {e : Env} {s : State} {m : MethodId} {args : Array Value} {below : List Frame} {meth : Method} {c : Code} {D : va_G} {G : G3} {ad : Nat → Nat}
def fX11_unwinds_s72 (n : Nat)    (st : St) : Option (Unit × St) := some ((), st)
set_option maxHeartbeats 4000000 in
set_option maxRecDepth 100000 in
theorem wX11_unwinds_s72 (C : Cx p s m args meth c cX11_unwinds 2 wsL_law RX11 none D G ad) (n : Nat)      (st : St) (res : (Unit × St))  (hf : fX11_unwinds_s72 n    st = some res) : At p l e (rmK 1) s m args below meth c D G ad (MQV D G ad below args s res) 2 st [] 72 [] := by
  obtain ⟨hx, hb, hml, hown, hts, hr, hlk, hK, had, hSt⟩ := id C
  intro H locs ls hl hP hS
  unfold fX11_unwinds_s72 at hf
  exact g_vret hx hb hr hlk hP hS dX11_unwinds_72 hf
def fX11_unwinds_s69 (n : Nat) (K0 : Int32 → St → Option (Unit × St))  (v1 : Int32) (st : St) : Option (Unit × St) := K0 v1 st
set_option maxHeartbeats 4000000 in
set_option maxRecDepth 100000 in
theorem wX11_unwinds_s69 (C : Cx p s m args meth c cX11_unwinds 2 wsL_law RX11 none D G ad) (n : Nat) (K0 : Int32 → St → Option (Unit × St))  (v1 : Int32)   (st : St) (res : (Unit × St)) (hK0 : ∀ (v1 : Int32) (st : St), K0 v1 st = some res → At p l e (rmK 1) s m args below meth c D G ad (MQV D G ad below args s res) 2 st [(0, .ref (ad 130)), (1, .int v1)] 0 []) (hf : fX11_unwinds_s69 n K0  v1 st = some res) : At p l e (rmK 1) s m args below meth c D G ad (MQV D G ad below args s res) 2 st [(0, .ref (ad 130)), (1, .int v1)] 69 [] := by
  obtain ⟨hx, hb, hml, hown, hts, hr, hlk, hK, had, hSt⟩ := id C
  intro H locs ls hl hP hS
  unfold fX11_unwinds_s69 at hf
  refine lv_goto (tgt := 0) hx hb dX11_unwinds_69 (by decide) ?_
  exact hK0 v1  st hf H locs ls (lv_sub hl [0, 1] rfl) hP hS
def fX11_unwinds_s52 (n : Nat) (K0 : Int32 → St → Option (Unit × St))  (v1 : Int32) (st : St) : Option (Unit × St) := if inb (st.1 130 35) 130 = true then ((fX11_puts n (20000 + (st.1 157 (st.1 130 35).toNatClampNeg)) st).bind (fun q => fX11_unwinds_s69 n K0 v1 q.2)) else none
set_option maxHeartbeats 4000000 in
set_option maxRecDepth 100000 in
theorem wX11_unwinds_s52 (C : Cx p s m args meth c cX11_unwinds 2 wsL_law RX11 none D G ad) (n : Nat) (K0 : Int32 → St → Option (Unit × St))  (v1 : Int32)   (st : St) (res : (Unit × St)) (hK0 : ∀ (v1 : Int32) (st : St), K0 v1 st = some res → At p l e (rmK 1) s m args below meth c D G ad (MQV D G ad below args s res) 2 st [(0, .ref (ad 130)), (1, .int v1)] 0 []) (hf : fX11_unwinds_s52 n K0  v1 st = some res) : At p l e (rmK 1) s m args below meth c D G ad (MQV D G ad below args s res) 2 st [(0, .ref (ad 130)), (1, .int v1)] 52 [] := by
  obtain ⟨hx, hb, hml, hown, hts, hr, hlk, hK, had, hSt⟩ := id C
  intro H locs ls hl hP hS
  unfold fX11_unwinds_s52 at hf
  refine lv_aload_n hx hb dX11_unwinds_52 rfl (lv_at hl 0 rfl) ?_
  refine lv_sipush (v := 20000) hx hb dX11_unwinds_53 (by decide) ?_
  refine lv_aload_n hx hb dX11_unwinds_56 rfl (lv_at hl 0 rfl) ?_
  refine g_getR hx hb hts inlX11 hown hK hP 130 ct_130 rfl 34 (by decide) (hts _ wm_8_4) rfl dX11_unwinds_57 ?_
  refine lv_aload_n hx hb dX11_unwinds_60 rfl (lv_at hl 0 rfl) ?_
  refine g_getI hx hb hts inlX11 hown hK hP 130 ct_130 rfl 35 (by decide) (hts _ wm_30_11) rfl dX11_unwinds_61 ?_
  obtain ⟨g1, hf⟩ := gd hf
  refine g_iald hx hb hK hP 157 ct_157 g1 dX11_unwinds_64 ?_
  refine lv_iadd hx hb dX11_unwinds_65 ?_
  obtain ⟨q, hq, hf⟩ := bd hf
  refine gcV_v (k := 0) (o := 130) (As := [.int (20000 + (st.1 157 (st.1 130 35).toNatClampNeg))]) (rest := []) hx hb hml hown hts hK hSt hP hS hl.1 (goodV wm_31_0 wm_31_1 wm_31_2 wm_1_5 wm_31_3) okX11_puts ct_130 rfl rfl (Nat.le_of_ble_eq_true rfl) (Nat.le_of_ble_eq_true rfl) rfl rfl (Nat.le_of_ble_eq_true rfl) dX11_unwinds_66 (kX11_puts l D G ad had n  (20000 + (st.1 157 (st.1 130 35).toNatClampNeg)) st q hq) (fun H locs hP hS => ?_)
  exact wX11_unwinds_s69 C n K0 v1 q.2 res hK0 hf H locs ls (lv_sub hl [0, 1] rfl) hP hS
def fX11_unwinds_s42 (n : Nat) (K0 : Int32 → St → Option (Unit × St))  (v1 : Int32) (st : St) : Option (Unit × St) := fX11_unwinds_s52 n K0 v1 (setI st 130 35 ((st.1 130 35) - 1))
set_option maxHeartbeats 4000000 in
set_option maxRecDepth 100000 in
theorem wX11_unwinds_s42 (C : Cx p s m args meth c cX11_unwinds 2 wsL_law RX11 none D G ad) (n : Nat) (K0 : Int32 → St → Option (Unit × St))  (v1 : Int32)   (st : St) (res : (Unit × St)) (hK0 : ∀ (v1 : Int32) (st : St), K0 v1 st = some res → At p l e (rmK 1) s m args below meth c D G ad (MQV D G ad below args s res) 2 st [(0, .ref (ad 130)), (1, .int v1)] 0 []) (hf : fX11_unwinds_s42 n K0  v1 st = some res) : At p l e (rmK 1) s m args below meth c D G ad (MQV D G ad below args s res) 2 st [(0, .ref (ad 130)), (1, .int v1)] 42 [] := by
  obtain ⟨hx, hb, hml, hown, hts, hr, hlk, hK, had, hSt⟩ := id C
  intro H locs ls hl hP hS
  unfold fX11_unwinds_s42 at hf
  refine lv_aload_n hx hb dX11_unwinds_42 rfl (lv_at hl 0 rfl) ?_
  refine lv_dup hx hb dX11_unwinds_43 rfl ?_
  refine g_getI hx hb hts inlX11 hown hK hP 130 ct_130 rfl 35 (by decide) (hts _ wm_30_11) rfl dX11_unwinds_44 ?_
  refine lv_iconst (v := 1) hx hb dX11_unwinds_47 (by decide) ?_
  refine lv_isub hx hb dX11_unwinds_48 ?_
  refine g_putI hx hb hts inlX11 tyX11_ok nmX11 hown hK had hP hS 130 ct_130 rfl 35 (by decide) (hts _ wm_30_11) rfl rfl rfl rfl rfl dX11_unwinds_49 (fun H locs hP hS => ?_)
  exact wX11_unwinds_s52 C n K0 v1 (setI st 130 35 ((st.1 130 35) - 1)) res hK0 hf H locs ls (lv_sub hl [0, 1] rfl) hP hS
def fX11_unwinds_s39 (n : Nat) (K0 : Int32 → St → Option (Unit × St))  (v1 : Int32) (k0 : Int32) (st : St) : Option (Unit × St) := if k0 ≤ 0 then fX11_unwinds_s72 n st else fX11_unwinds_s42 n K0 v1 st
set_option maxHeartbeats 4000000 in
set_option maxRecDepth 100000 in
theorem wX11_unwinds_s39 (C : Cx p s m args meth c cX11_unwinds 2 wsL_law RX11 none D G ad) (n : Nat) (K0 : Int32 → St → Option (Unit × St))  (v1 : Int32) (k0 : Int32)   (st : St) (res : (Unit × St)) (hK0 : ∀ (v1 : Int32) (st : St), K0 v1 st = some res → At p l e (rmK 1) s m args below meth c D G ad (MQV D G ad below args s res) 2 st [(0, .ref (ad 130)), (1, .int v1)] 0 []) (hf : fX11_unwinds_s39 n K0  v1 k0 st = some res) : At p l e (rmK 1) s m args below meth c D G ad (MQV D G ad below args s res) 2 st [(0, .ref (ad 130)), (1, .int v1)] 39 [.int k0] := by
  obtain ⟨hx, hb, hml, hown, hts, hr, hlk, hK, had, hSt⟩ := id C
  intro H locs ls hl hP hS
  unfold fX11_unwinds_s39 at hf
  refine lv_if_le (tgt := 72) hx hb dX11_unwinds_39 (by decide) (fun q => ?_) (fun q => ?_)
  · exact wX11_unwinds_s72 C n st res (it hf q) H locs ls (lv_sub hl [] rfl) hP hS
  · exact wX11_unwinds_s42 C n K0 v1 st res hK0 (ie hf q) H locs ls (lv_sub hl [0, 1] rfl) hP hS
def fX11_unwinds_s25 (n : Nat) (K0 : Int32 → St → Option (Unit × St))  (v1 : Int32) (st : St) : Option (Unit × St) := if inb ((st.1 130 35) - 1) 130 = true then ((fX11_rank n (st.1 157 ((st.1 130 35) - 1).toNatClampNeg) st).bind (fun q => fX11_unwinds_s39 n K0 v1 q.1 q.2)) else none
set_option maxHeartbeats 4000000 in
set_option maxRecDepth 100000 in
theorem wX11_unwinds_s25 (C : Cx p s m args meth c cX11_unwinds 2 wsL_law RX11 none D G ad) (n : Nat) (K0 : Int32 → St → Option (Unit × St))  (v1 : Int32)   (st : St) (res : (Unit × St)) (hK0 : ∀ (v1 : Int32) (st : St), K0 v1 st = some res → At p l e (rmK 1) s m args below meth c D G ad (MQV D G ad below args s res) 2 st [(0, .ref (ad 130)), (1, .int v1)] 0 []) (hf : fX11_unwinds_s25 n K0  v1 st = some res) : At p l e (rmK 1) s m args below meth c D G ad (MQV D G ad below args s res) 2 st [(0, .ref (ad 130)), (1, .int v1)] 25 [] := by
  obtain ⟨hx, hb, hml, hown, hts, hr, hlk, hK, had, hSt⟩ := id C
  intro H locs ls hl hP hS
  unfold fX11_unwinds_s25 at hf
  refine lv_aload_n hx hb dX11_unwinds_25 rfl (lv_at hl 0 rfl) ?_
  refine g_getR hx hb hts inlX11 hown hK hP 130 ct_130 rfl 34 (by decide) (hts _ wm_8_4) rfl dX11_unwinds_26 ?_
  refine lv_aload_n hx hb dX11_unwinds_29 rfl (lv_at hl 0 rfl) ?_
  refine g_getI hx hb hts inlX11 hown hK hP 130 ct_130 rfl 35 (by decide) (hts _ wm_30_11) rfl dX11_unwinds_30 ?_
  refine lv_iconst (v := 1) hx hb dX11_unwinds_33 (by decide) ?_
  refine lv_isub hx hb dX11_unwinds_34 ?_
  obtain ⟨g1, hf⟩ := gd hf
  refine g_iald hx hb hK hP 157 ct_157 g1 dX11_unwinds_35 ?_
  obtain ⟨q, hq, hf⟩ := bd hf
  refine gcS_i (k := 0) (As := [.int (st.1 157 ((st.1 130 35) - 1).toNatClampNeg)]) (rest := []) hx hb hml hown hts hK hSt hP hS hl.1 (goodS wm_31_16 wm_31_17 wm_1_5 wm_31_18) okX11_rank (Nat.le_of_ble_eq_true rfl) (Nat.le_of_ble_eq_true rfl) rfl rfl (Nat.le_of_ble_eq_true rfl) dX11_unwinds_36 (kX11_rank l D G ad had n  (st.1 157 ((st.1 130 35) - 1).toNatClampNeg) st q hq) (fun H locs hP hS => ?_)
  exact wX11_unwinds_s39 C n K0 v1 q.1 q.2 res hK0 hf H locs ls (lv_sub hl [0, 1] rfl) hP hS
def fX11_unwinds_s21 (n : Nat) (K0 : Int32 → St → Option (Unit × St))  (v1 : Int32) (k0 : Int32) (st : St) : Option (Unit × St) := if k0 < v1 then fX11_unwinds_s72 n st else fX11_unwinds_s25 n K0 v1 st
set_option maxHeartbeats 4000000 in
set_option maxRecDepth 100000 in
theorem wX11_unwinds_s21 (C : Cx p s m args meth c cX11_unwinds 2 wsL_law RX11 none D G ad) (n : Nat) (K0 : Int32 → St → Option (Unit × St))  (v1 : Int32) (k0 : Int32)   (st : St) (res : (Unit × St)) (hK0 : ∀ (v1 : Int32) (st : St), K0 v1 st = some res → At p l e (rmK 1) s m args below meth c D G ad (MQV D G ad below args s res) 2 st [(0, .ref (ad 130)), (1, .int v1)] 0 []) (hf : fX11_unwinds_s21 n K0  v1 k0 st = some res) : At p l e (rmK 1) s m args below meth c D G ad (MQV D G ad below args s res) 2 st [(0, .ref (ad 130)), (1, .int v1)] 21 [.int k0] := by
  obtain ⟨hx, hb, hml, hown, hts, hr, hlk, hK, had, hSt⟩ := id C
  intro H locs ls hl hP hS
  unfold fX11_unwinds_s21 at hf
  refine lv_iload_n hx hb dX11_unwinds_21 rfl (lv_at hl 1 rfl) ?_
  refine lv_icmp_lt (tgt := 72) hx hb dX11_unwinds_22 (by decide) (fun q => ?_) (fun q => ?_)
  · exact wX11_unwinds_s72 C n st res (it hf q) H locs ls (lv_sub hl [] rfl) hP hS
  · exact wX11_unwinds_s25 C n K0 v1 st res hK0 (ie hf q) H locs ls (lv_sub hl [0, 1] rfl) hP hS
def fX11_unwinds_s7 (n : Nat) (K0 : Int32 → St → Option (Unit × St))  (v1 : Int32) (st : St) : Option (Unit × St) := if inb ((st.1 130 35) - 1) 130 = true then ((fX11_rank n (st.1 157 ((st.1 130 35) - 1).toNatClampNeg) st).bind (fun q => fX11_unwinds_s21 n K0 v1 q.1 q.2)) else none
set_option maxHeartbeats 4000000 in
set_option maxRecDepth 100000 in
theorem wX11_unwinds_s7 (C : Cx p s m args meth c cX11_unwinds 2 wsL_law RX11 none D G ad) (n : Nat) (K0 : Int32 → St → Option (Unit × St))  (v1 : Int32)   (st : St) (res : (Unit × St)) (hK0 : ∀ (v1 : Int32) (st : St), K0 v1 st = some res → At p l e (rmK 1) s m args below meth c D G ad (MQV D G ad below args s res) 2 st [(0, .ref (ad 130)), (1, .int v1)] 0 []) (hf : fX11_unwinds_s7 n K0  v1 st = some res) : At p l e (rmK 1) s m args below meth c D G ad (MQV D G ad below args s res) 2 st [(0, .ref (ad 130)), (1, .int v1)] 7 [] := by
  obtain ⟨hx, hb, hml, hown, hts, hr, hlk, hK, had, hSt⟩ := id C
  intro H locs ls hl hP hS
  unfold fX11_unwinds_s7 at hf
  refine lv_aload_n hx hb dX11_unwinds_7 rfl (lv_at hl 0 rfl) ?_
  refine g_getR hx hb hts inlX11 hown hK hP 130 ct_130 rfl 34 (by decide) (hts _ wm_8_4) rfl dX11_unwinds_8 ?_
  refine lv_aload_n hx hb dX11_unwinds_11 rfl (lv_at hl 0 rfl) ?_
  refine g_getI hx hb hts inlX11 hown hK hP 130 ct_130 rfl 35 (by decide) (hts _ wm_30_11) rfl dX11_unwinds_12 ?_
  refine lv_iconst (v := 1) hx hb dX11_unwinds_15 (by decide) ?_
  refine lv_isub hx hb dX11_unwinds_16 ?_
  obtain ⟨g1, hf⟩ := gd hf
  refine g_iald hx hb hK hP 157 ct_157 g1 dX11_unwinds_17 ?_
  obtain ⟨q, hq, hf⟩ := bd hf
  refine gcS_i (k := 0) (As := [.int (st.1 157 ((st.1 130 35) - 1).toNatClampNeg)]) (rest := []) hx hb hml hown hts hK hSt hP hS hl.1 (goodS wm_31_16 wm_31_17 wm_1_5 wm_31_18) okX11_rank (Nat.le_of_ble_eq_true rfl) (Nat.le_of_ble_eq_true rfl) rfl rfl (Nat.le_of_ble_eq_true rfl) dX11_unwinds_18 (kX11_rank l D G ad had n  (st.1 157 ((st.1 130 35) - 1).toNatClampNeg) st q hq) (fun H locs hP hS => ?_)
  exact wX11_unwinds_s21 C n K0 v1 q.1 q.2 res hK0 hf H locs ls (lv_sub hl [0, 1] rfl) hP hS
def fX11_unwinds_s0 (n : Nat) (K0 : Int32 → St → Option (Unit × St))  (v1 : Int32) (st : St) : Option (Unit × St) := if (st.1 130 35) ≤ 0 then fX11_unwinds_s72 n st else fX11_unwinds_s7 n K0 v1 st
set_option maxHeartbeats 4000000 in
set_option maxRecDepth 100000 in
theorem wX11_unwinds_s0 (C : Cx p s m args meth c cX11_unwinds 2 wsL_law RX11 none D G ad) (n : Nat) (K0 : Int32 → St → Option (Unit × St))  (v1 : Int32)   (st : St) (res : (Unit × St)) (hK0 : ∀ (v1 : Int32) (st : St), K0 v1 st = some res → At p l e (rmK 1) s m args below meth c D G ad (MQV D G ad below args s res) 2 st [(0, .ref (ad 130)), (1, .int v1)] 0 []) (hf : fX11_unwinds_s0 n K0  v1 st = some res) : At p l e (rmK 1) s m args below meth c D G ad (MQV D G ad below args s res) 2 st [(0, .ref (ad 130)), (1, .int v1)] 0 [] := by
  obtain ⟨hx, hb, hml, hown, hts, hr, hlk, hK, had, hSt⟩ := id C
  intro H locs ls hl hP hS
  unfold fX11_unwinds_s0 at hf
  refine lv_aload_n hx hb dX11_unwinds_0 rfl (lv_at hl 0 rfl) ?_
  refine g_getI hx hb hts inlX11 hown hK hP 130 ct_130 rfl 35 (by decide) (hts _ wm_30_11) rfl dX11_unwinds_1 ?_
  refine lv_if_le (tgt := 72) hx hb dX11_unwinds_4 (by decide) (fun q => ?_) (fun q => ?_)
  · exact wX11_unwinds_s72 C n st res (it hf q) H locs ls (lv_sub hl [] rfl) hP hS
  · exact wX11_unwinds_s7 C n K0 v1 st res hK0 (ie hf q) H locs ls (lv_sub hl [0, 1] rfl) hP hS
def fX11_unwinds_L0 (n : Nat)   : Nat → Int32 → St → Option (Unit × St)
  | 0, _, _ => none
  | k + 1, v1, st => fX11_unwinds_s0 n (fX11_unwinds_L0 n k)  v1 st
theorem wX11_unwinds_L0 (C : Cx p s m args meth c cX11_unwinds 2 wsL_law RX11 none D G ad) (n : Nat)    (res : (Unit × St))  : ∀ (k : Nat) (v1 : Int32)  (st : St), fX11_unwinds_L0 n k v1 st = some res → At p l e (rmK 1) s m args below meth c D G ad (MQV D G ad below args s res) 2 st [(0, .ref (ad 130)), (1, .int v1)] 0 [] := by
  intro k
  induction k with
  | zero => intro v1  st h; exact absurd h (by intro q; cases q)
  | succ k ih => intro v1  st h; exact wX11_unwinds_s0 C n (fX11_unwinds_L0 n k)  v1   st res ih h
def fX11_unwinds (n : Nat)  (a1 : Int32) (st : St) : Option (Unit × St) := fX11_unwinds_L0 n n a1 st
theorem okX11_unwinds : okY yX11_unwinds RX11 1 := by unfold okY; decide +kernel
end
set_option maxRecDepth 100000 in
theorem kX11_unwinds (l : Launch) (D : va_G) (G : G3) (ad : Nat → Nat) (had : Adr ad) (n : Nat)   (a1 : Int32) (st : St) (res : (Unit × St)) (hf : fX11_unwinds n  a1 st = some res) {sz : Nat} : CtV l yX11_unwinds (wsU yX11_unwinds cX11_unwinds 2 none) (rmK 1) D G ad sz [.ref (ad 130), .int a1] st res := by
  refine Met.ofW (cc := cX11_unwinds) (maxL := 2) (ret := none) (by decide) rfl ?_
  intro p e s m args below meth c s₁ B hml hv
  obtain ⟨rfl, hsz, hP, hK, hSt⟩ := hv
  have hts := atoms_spec (ws := wsU yX11_unwinds cX11_unwinds 2 none) B.pre
  have C : Cx p s m _ meth c cX11_unwinds 2 wsL_law RX11 none D G ad := ⟨B.exec, B.bytes, hml, findClass_of_methodNamed B.named, fun w h => hts w (List.mem_cons_of_mem _ h), B.returns, B.notSynchronized, hK, had, hSt⟩
  subst hsz
  have hl := lv_entry ([.ref (ad 130), .int a1]) (n := 2) (Nat.le_of_ble_eq_true rfl)
  rw [lg_entry_eq]
  generalize (lg_sl ([.ref (ad 130), .int a1]) ++ List.replicate (2 - (lg_sl ([.ref (ad 130), .int a1])).length) Slot.unset).toArray = ls at hl ⊢
  exact wX11_unwinds_L0 C n   res n a1  st hf s.heap [] ls (lv_sub hl [0, 1] rfl) hP va_S.rf
section
variable {p : Program} {l : Launch} {e : Env} {s : State} {m : MethodId} {args : Array Value} {below : List Frame} {meth : Method} {c : Code} {D : va_G} {G : G3} {ad : Nat → Nat}
def fX11_readWord_s164 (n : Nat) (K6 : Int32 → Int32 → Int32 → St → Option (Int32 × St))  (v1 : Int32) (v2 : Int32) (v3 : Int32) (st : St) : Option (Int32 × St) := K6 v1 v2 v3 st
set_option maxHeartbeats 4000000 in
set_option maxRecDepth 100000 in
theorem wX11_readWord_s164 (C : Cx p s m args meth c cX11_readWord 8 wsL_law RX11 (some .int) D G ad) (n : Nat) (K6 : Int32 → Int32 → Int32 → St → Option (Int32 × St))  (v1 : Int32) (v2 : Int32) (v3 : Int32)   (st : St) (res : (Int32 × St)) (hK6 : ∀ (v1 : Int32) (v2 : Int32) (v3 : Int32) (st : St), K6 v1 v2 v3 st = some res → At p l e (rmK 1) s m args below meth c D G ad (MQI D G ad below args s res) 8 st [(0, .ref (ad 130)), (1, .int v1), (2, .int v2), (3, .int v3)] 6 []) (hf : fX11_readWord_s164 n K6  v1 v2 v3 st = some res) : At p l e (rmK 1) s m args below meth c D G ad (MQI D G ad below args s res) 8 st [(0, .ref (ad 130)), (1, .int v1), (2, .int v2), (3, .int v3)] 164 [] := by
  obtain ⟨hx, hb, hml, hown, hts, hr, hlk, hK, had, hSt⟩ := id C
  intro H locs ls hl hP hS
  unfold fX11_readWord_s164 at hf
  refine lv_goto (tgt := 6) hx hb dX11_readWord_164 (by decide) ?_
  exact hK6 v1 v2 v3  st hf H locs ls (lv_sub hl [0, 1, 2, 3] rfl) hP hS
def fX11_readWord_s158 (n : Nat) (K6 : Int32 → Int32 → Int32 → St → Option (Int32 × St)) (K116 : Int32 → Int32 → Int32 → Int32 → St → Option (Int32 × St))  (v1 : Int32) (v2 : Int32) (v3 : Int32) (v6 : Int32) (st : St) : Option (Int32 × St) := K116 v1 v2 v3 (v6 + 1) st
set_option maxHeartbeats 4000000 in
set_option maxRecDepth 100000 in
theorem wX11_readWord_s158 (C : Cx p s m args meth c cX11_readWord 8 wsL_law RX11 (some .int) D G ad) (n : Nat) (K6 : Int32 → Int32 → Int32 → St → Option (Int32 × St)) (K116 : Int32 → Int32 → Int32 → Int32 → St → Option (Int32 × St))  (v1 : Int32) (v2 : Int32) (v3 : Int32) (v6 : Int32)   (st : St) (res : (Int32 × St)) (hK6 : ∀ (v1 : Int32) (v2 : Int32) (v3 : Int32) (st : St), K6 v1 v2 v3 st = some res → At p l e (rmK 1) s m args below meth c D G ad (MQI D G ad below args s res) 8 st [(0, .ref (ad 130)), (1, .int v1), (2, .int v2), (3, .int v3)] 6 []) (hK116 : ∀ (v1 : Int32) (v2 : Int32) (v3 : Int32) (v6 : Int32) (st : St), K116 v1 v2 v3 v6 st = some res → At p l e (rmK 1) s m args below meth c D G ad (MQI D G ad below args s res) 8 st [(0, .ref (ad 130)), (1, .int v1), (2, .int v2), (3, .int v3), (6, .int v6)] 116 []) (hf : fX11_readWord_s158 n K6 K116  v1 v2 v3 v6 st = some res) : At p l e (rmK 1) s m args below meth c D G ad (MQI D G ad below args s res) 8 st [(0, .ref (ad 130)), (1, .int v1), (2, .int v2), (3, .int v3), (6, .int v6)] 158 [] := by
  obtain ⟨hx, hb, hml, hown, hts, hr, hlk, hK, had, hSt⟩ := id C
  intro H locs ls hl hP hS
  unfold fX11_readWord_s158 at hf
  refine lv_iinc (v := v6 + 1) (lv' := [(6, .int (v6 + 1)), (0, .ref (ad 130)), (1, .int v1), (2, .int v2), (3, .int v3)]) hx hb dX11_readWord_158 hl (k := 4) rfl rfl (by decide) rfl (fun ls hl => ?_)
  refine lv_goto (tgt := 116) hx hb dX11_readWord_161 (by decide) ?_
  exact hK116 v1 v2 v3 (v6 + 1)  st hf H locs ls (lv_sub hl [1, 2, 3, 4, 0] rfl) hP hS
def fX11_readWord_s154 (n : Nat)   (v1 : Int32) (v3 : Int32) (st : St) : Option (Int32 × St) := some (v1 + v3, st)
set_option maxHeartbeats 4000000 in
set_option maxRecDepth 100000 in
theorem wX11_readWord_s154 (C : Cx p s m args meth c cX11_readWord 8 wsL_law RX11 (some .int) D G ad) (n : Nat)   (v1 : Int32) (v3 : Int32)   (st : St) (res : (Int32 × St))  (hf : fX11_readWord_s154 n   v1 v3 st = some res) : At p l e (rmK 1) s m args below meth c D G ad (MQI D G ad below args s res) 8 st [(1, .int v1), (3, .int v3)] 154 [] := by
  obtain ⟨hx, hb, hml, hown, hts, hr, hlk, hK, had, hSt⟩ := id C
  intro H locs ls hl hP hS
  unfold fX11_readWord_s154 at hf
  refine lv_iload_n hx hb dX11_readWord_154 rfl (lv_at hl 0 rfl) ?_
  refine lv_iload_n hx hb dX11_readWord_155 rfl (lv_at hl 1 rfl) ?_
  refine lv_iadd hx hb dX11_readWord_156 ?_
  exact g_iret hx hb hr hlk hP hS dX11_readWord_157 hf
def fX11_readWord_s148 (n : Nat)   (v1 : Int32) (v3 : Int32) (v6 : Int32) (st : St) : Option (Int32 × St) := fX11_readWord_s154 n v1 v3 (setI st 130 38 v6)
set_option maxHeartbeats 4000000 in
set_option maxRecDepth 100000 in
theorem wX11_readWord_s148 (C : Cx p s m args meth c cX11_readWord 8 wsL_law RX11 (some .int) D G ad) (n : Nat)   (v1 : Int32) (v3 : Int32) (v6 : Int32)   (st : St) (res : (Int32 × St))  (hf : fX11_readWord_s148 n   v1 v3 v6 st = some res) : At p l e (rmK 1) s m args below meth c D G ad (MQI D G ad below args s res) 8 st [(0, .ref (ad 130)), (1, .int v1), (3, .int v3), (6, .int v6)] 148 [] := by
  obtain ⟨hx, hb, hml, hown, hts, hr, hlk, hK, had, hSt⟩ := id C
  intro H locs ls hl hP hS
  unfold fX11_readWord_s148 at hf
  refine lv_aload_n hx hb dX11_readWord_148 rfl (lv_at hl 0 rfl) ?_
  refine lv_iload hx hb dX11_readWord_149 (lv_at hl 3 rfl) ?_
  refine g_putI hx hb hts inlX11 tyX11_ok nmX11 hown hK had hP hS 130 ct_130 rfl 38 (by decide) (hts _ wm_30_19) rfl rfl rfl rfl rfl dX11_readWord_151 (fun H locs hP hS => ?_)
  exact wX11_readWord_s154 C n v1 v3 (setI st 130 38 v6) res hf H locs ls (lv_sub hl [1, 2] rfl) hP hS
def fX11_readWord_s133 (n : Nat) (K6 : Int32 → Int32 → Int32 → St → Option (Int32 × St)) (K116 : Int32 → Int32 → Int32 → Int32 → St → Option (Int32 × St))  (v1 : Int32) (v2 : Int32) (v3 : Int32) (v6 : Int32) (st : St) : Option (Int32 × St) := if inb ((6 * v6) + v3) 54 = true then (if (st.1 156 ((6 * v6) + v3).toNatClampNeg) = 0 then fX11_readWord_s148 n v1 v3 v6 st else fX11_readWord_s158 n K6 K116 v1 v2 v3 v6 st) else none
set_option maxHeartbeats 4000000 in
set_option maxRecDepth 100000 in
theorem wX11_readWord_s133 (C : Cx p s m args meth c cX11_readWord 8 wsL_law RX11 (some .int) D G ad) (n : Nat) (K6 : Int32 → Int32 → Int32 → St → Option (Int32 × St)) (K116 : Int32 → Int32 → Int32 → Int32 → St → Option (Int32 × St))  (v1 : Int32) (v2 : Int32) (v3 : Int32) (v6 : Int32)   (st : St) (res : (Int32 × St)) (hK6 : ∀ (v1 : Int32) (v2 : Int32) (v3 : Int32) (st : St), K6 v1 v2 v3 st = some res → At p l e (rmK 1) s m args below meth c D G ad (MQI D G ad below args s res) 8 st [(0, .ref (ad 130)), (1, .int v1), (2, .int v2), (3, .int v3)] 6 []) (hK116 : ∀ (v1 : Int32) (v2 : Int32) (v3 : Int32) (v6 : Int32) (st : St), K116 v1 v2 v3 v6 st = some res → At p l e (rmK 1) s m args below meth c D G ad (MQI D G ad below args s res) 8 st [(0, .ref (ad 130)), (1, .int v1), (2, .int v2), (3, .int v3), (6, .int v6)] 116 []) (hf : fX11_readWord_s133 n K6 K116  v1 v2 v3 v6 st = some res) : At p l e (rmK 1) s m args below meth c D G ad (MQI D G ad below args s res) 8 st [(0, .ref (ad 130)), (1, .int v1), (2, .int v2), (3, .int v3), (6, .int v6)] 133 [] := by
  obtain ⟨hx, hb, hml, hown, hts, hr, hlk, hK, had, hSt⟩ := id C
  intro H locs ls hl hP hS
  unfold fX11_readWord_s133 at hf
  refine lv_aload_n hx hb dX11_readWord_133 rfl (lv_at hl 0 rfl) ?_
  refine g_getR hx hb hts inlX11 hown hK hP 130 ct_130 rfl 33 (by decide) (hts _ wm_8_3) rfl dX11_readWord_134 ?_
  refine lv_bipush (v := 6) hx hb dX11_readWord_137 (by decide) ?_
  refine lv_iload hx hb dX11_readWord_139 (lv_at hl 4 rfl) ?_
  refine lv_imul hx hb dX11_readWord_141 ?_
  refine lv_iload_n hx hb dX11_readWord_142 rfl (lv_at hl 3 rfl) ?_
  refine lv_iadd hx hb dX11_readWord_143 ?_
  obtain ⟨g1, hf⟩ := gd hf
  refine g_iald hx hb hK hP 156 ct_156 g1 dX11_readWord_144 ?_
  refine lv_if_ne (tgt := 158) hx hb dX11_readWord_145 (by decide) (fun q => ?_) (fun q => ?_)
  · exact wX11_readWord_s158 C n K6 K116 v1 v2 v3 v6 st res hK6 hK116 (ie hf q) H locs ls (lv_sub hl [0, 1, 2, 3, 4] rfl) hP hS
  · exact wX11_readWord_s148 C n v1 v3 v6 st res (it hf q) H locs ls (lv_sub hl [0, 1, 3, 4] rfl) hP hS
def fX11_readWord_s123 (n : Nat) (K6 : Int32 → Int32 → Int32 → St → Option (Int32 × St)) (K116 : Int32 → Int32 → Int32 → Int32 → St → Option (Int32 × St))  (v1 : Int32) (v2 : Int32) (v3 : Int32) (v6 : Int32) (st : St) : Option (Int32 × St) := if ((v2 >>> (v6 &&& 31)) &&& 1) = 1 then fX11_readWord_s133 n K6 K116 v1 v2 v3 v6 st else fX11_readWord_s158 n K6 K116 v1 v2 v3 v6 st
set_option maxHeartbeats 4000000 in
set_option maxRecDepth 100000 in
theorem wX11_readWord_s123 (C : Cx p s m args meth c cX11_readWord 8 wsL_law RX11 (some .int) D G ad) (n : Nat) (K6 : Int32 → Int32 → Int32 → St → Option (Int32 × St)) (K116 : Int32 → Int32 → Int32 → Int32 → St → Option (Int32 × St))  (v1 : Int32) (v2 : Int32) (v3 : Int32) (v6 : Int32)   (st : St) (res : (Int32 × St)) (hK6 : ∀ (v1 : Int32) (v2 : Int32) (v3 : Int32) (st : St), K6 v1 v2 v3 st = some res → At p l e (rmK 1) s m args below meth c D G ad (MQI D G ad below args s res) 8 st [(0, .ref (ad 130)), (1, .int v1), (2, .int v2), (3, .int v3)] 6 []) (hK116 : ∀ (v1 : Int32) (v2 : Int32) (v3 : Int32) (v6 : Int32) (st : St), K116 v1 v2 v3 v6 st = some res → At p l e (rmK 1) s m args below meth c D G ad (MQI D G ad below args s res) 8 st [(0, .ref (ad 130)), (1, .int v1), (2, .int v2), (3, .int v3), (6, .int v6)] 116 []) (hf : fX11_readWord_s123 n K6 K116  v1 v2 v3 v6 st = some res) : At p l e (rmK 1) s m args below meth c D G ad (MQI D G ad below args s res) 8 st [(0, .ref (ad 130)), (1, .int v1), (2, .int v2), (3, .int v3), (6, .int v6)] 123 [] := by
  obtain ⟨hx, hb, hml, hown, hts, hr, hlk, hK, had, hSt⟩ := id C
  intro H locs ls hl hP hS
  unfold fX11_readWord_s123 at hf
  refine lv_iload_n hx hb dX11_readWord_123 rfl (lv_at hl 2 rfl) ?_
  refine lv_iload hx hb dX11_readWord_124 (lv_at hl 4 rfl) ?_
  refine lv_ishr hx hb dX11_readWord_126 ?_
  refine lv_iconst (v := 1) hx hb dX11_readWord_127 (by decide) ?_
  refine lv_iand hx hb dX11_readWord_128 ?_
  refine lv_iconst (v := 1) hx hb dX11_readWord_129 (by decide) ?_
  refine lv_icmp_ne (tgt := 158) hx hb dX11_readWord_130 (by decide) (fun q => ?_) (fun q => ?_)
  · exact wX11_readWord_s158 C n K6 K116 v1 v2 v3 v6 st res hK6 hK116 (ie hf q) H locs ls (lv_sub hl [0, 1, 2, 3, 4] rfl) hP hS
  · exact wX11_readWord_s133 C n K6 K116 v1 v2 v3 v6 st res hK6 hK116 (it hf q) H locs ls (lv_sub hl [0, 1, 2, 3, 4] rfl) hP hS
def fX11_readWord_s116 (n : Nat) (K6 : Int32 → Int32 → Int32 → St → Option (Int32 × St)) (K116 : Int32 → Int32 → Int32 → Int32 → St → Option (Int32 × St))  (v1 : Int32) (v2 : Int32) (v3 : Int32) (v6 : Int32) (st : St) : Option (Int32 × St) := if 9 ≤ v6 then fX11_readWord_s164 n K6 v1 v2 v3 st else fX11_readWord_s123 n K6 K116 v1 v2 v3 v6 st
set_option maxHeartbeats 4000000 in
set_option maxRecDepth 100000 in
theorem wX11_readWord_s116 (C : Cx p s m args meth c cX11_readWord 8 wsL_law RX11 (some .int) D G ad) (n : Nat) (K6 : Int32 → Int32 → Int32 → St → Option (Int32 × St)) (K116 : Int32 → Int32 → Int32 → Int32 → St → Option (Int32 × St))  (v1 : Int32) (v2 : Int32) (v3 : Int32) (v6 : Int32)   (st : St) (res : (Int32 × St)) (hK6 : ∀ (v1 : Int32) (v2 : Int32) (v3 : Int32) (st : St), K6 v1 v2 v3 st = some res → At p l e (rmK 1) s m args below meth c D G ad (MQI D G ad below args s res) 8 st [(0, .ref (ad 130)), (1, .int v1), (2, .int v2), (3, .int v3)] 6 []) (hK116 : ∀ (v1 : Int32) (v2 : Int32) (v3 : Int32) (v6 : Int32) (st : St), K116 v1 v2 v3 v6 st = some res → At p l e (rmK 1) s m args below meth c D G ad (MQI D G ad below args s res) 8 st [(0, .ref (ad 130)), (1, .int v1), (2, .int v2), (3, .int v3), (6, .int v6)] 116 []) (hf : fX11_readWord_s116 n K6 K116  v1 v2 v3 v6 st = some res) : At p l e (rmK 1) s m args below meth c D G ad (MQI D G ad below args s res) 8 st [(0, .ref (ad 130)), (1, .int v1), (2, .int v2), (3, .int v3), (6, .int v6)] 116 [] := by
  obtain ⟨hx, hb, hml, hown, hts, hr, hlk, hK, had, hSt⟩ := id C
  intro H locs ls hl hP hS
  unfold fX11_readWord_s116 at hf
  refine lv_iload hx hb dX11_readWord_116 (lv_at hl 4 rfl) ?_
  refine lv_bipush (v := 9) hx hb dX11_readWord_118 (by decide) ?_
  refine lv_icmp_ge (tgt := 164) hx hb dX11_readWord_120 (by decide) (fun q => ?_) (fun q => ?_)
  · exact wX11_readWord_s164 C n K6 v1 v2 v3 st res hK6 (it hf q) H locs ls (lv_sub hl [0, 1, 2, 3] rfl) hP hS
  · exact wX11_readWord_s123 C n K6 K116 v1 v2 v3 v6 st res hK6 hK116 (ie hf q) H locs ls (lv_sub hl [0, 1, 2, 3, 4] rfl) hP hS
def fX11_readWord_L116 (n : Nat) (K6 : Int32 → Int32 → Int32 → St → Option (Int32 × St))  : Nat → Int32 → Int32 → Int32 → Int32 → St → Option (Int32 × St)
  | 0, _, _, _, _, _ => none
  | k + 1, v1, v2, v3, v6, st => fX11_readWord_s116 n K6 (fX11_readWord_L116 n K6 k)  v1 v2 v3 v6 st
theorem wX11_readWord_L116 (C : Cx p s m args meth c cX11_readWord 8 wsL_law RX11 (some .int) D G ad) (n : Nat) (K6 : Int32 → Int32 → Int32 → St → Option (Int32 × St))   (res : (Int32 × St)) (hK6 : ∀ (v1 : Int32) (v2 : Int32) (v3 : Int32) (st : St), K6 v1 v2 v3 st = some res → At p l e (rmK 1) s m args below meth c D G ad (MQI D G ad below args s res) 8 st [(0, .ref (ad 130)), (1, .int v1), (2, .int v2), (3, .int v3)] 6 []) : ∀ (k : Nat) (v1 : Int32) (v2 : Int32) (v3 : Int32) (v6 : Int32)  (st : St), fX11_readWord_L116 n K6 k v1 v2 v3 v6 st = some res → At p l e (rmK 1) s m args below meth c D G ad (MQI D G ad below args s res) 8 st [(0, .ref (ad 130)), (1, .int v1), (2, .int v2), (3, .int v3), (6, .int v6)] 116 [] := by
  intro k
  induction k with
  | zero => intro v1 v2 v3 v6  st h; exact absurd h (by intro q; cases q)
  | succ k ih => intro v1 v2 v3 v6  st h; exact wX11_readWord_s116 C n K6 (fX11_readWord_L116 n K6 k)  v1 v2 v3 v6   st res hK6 ih h
def fX11_readWord_s107 (n : Nat) (K6 : Int32 → Int32 → Int32 → St → Option (Int32 × St))  (v1 : Int32) (v3 : Int32) (v5 : Int32) (st : St) : Option (Int32 × St) := fX11_readWord_L116 n K6 n v1 v5 (v3 + 1) 0 st
set_option maxHeartbeats 4000000 in
set_option maxRecDepth 100000 in
theorem wX11_readWord_s107 (C : Cx p s m args meth c cX11_readWord 8 wsL_law RX11 (some .int) D G ad) (n : Nat) (K6 : Int32 → Int32 → Int32 → St → Option (Int32 × St))  (v1 : Int32) (v3 : Int32) (v5 : Int32)   (st : St) (res : (Int32 × St)) (hK6 : ∀ (v1 : Int32) (v2 : Int32) (v3 : Int32) (st : St), K6 v1 v2 v3 st = some res → At p l e (rmK 1) s m args below meth c D G ad (MQI D G ad below args s res) 8 st [(0, .ref (ad 130)), (1, .int v1), (2, .int v2), (3, .int v3)] 6 []) (hf : fX11_readWord_s107 n K6  v1 v3 v5 st = some res) : At p l e (rmK 1) s m args below meth c D G ad (MQI D G ad below args s res) 8 st [(0, .ref (ad 130)), (1, .int v1), (3, .int v3), (5, .int v5)] 107 [] := by
  obtain ⟨hx, hb, hml, hown, hts, hr, hlk, hK, had, hSt⟩ := id C
  intro H locs ls hl hP hS
  unfold fX11_readWord_s107 at hf
  refine lv_iload hx hb dX11_readWord_107 (lv_at hl 3 rfl) ?_
  refine lv_istore_n (lv' := [(2, .int v5), (0, .ref (ad 130)), (1, .int v1), (3, .int v3), (5, .int v5)]) hx hb dX11_readWord_109 rfl hl (by decide) rfl (fun ls hl => ?_)
  refine lv_iinc (v := v3 + 1) (lv' := [(3, .int (v3 + 1)), (2, .int v5), (0, .ref (ad 130)), (1, .int v1), (5, .int v5)]) hx hb dX11_readWord_110 hl (k := 3) rfl rfl (by decide) rfl (fun ls hl => ?_)
  refine lv_iconst (v := 0) hx hb dX11_readWord_113 (by decide) ?_
  refine lv_istore (lv' := [(6, .int 0), (3, .int (v3 + 1)), (2, .int v5), (0, .ref (ad 130)), (1, .int v1), (5, .int v5)]) hx hb dX11_readWord_114 hl (by decide) rfl (fun ls hl => ?_)
  exact wX11_readWord_L116 C n K6 res hK6 n v1 v5 (v3 + 1) 0 st hf H locs ls (lv_sub hl [3, 4, 2, 1, 0] rfl) hP hS
def fX11_readWord_s101 (n : Nat)   (v1 : Int32) (v3 : Int32) (st : St) : Option (Int32 × St) := some (((-1) - v1) - v3, st)
set_option maxHeartbeats 4000000 in
set_option maxRecDepth 100000 in
theorem wX11_readWord_s101 (C : Cx p s m args meth c cX11_readWord 8 wsL_law RX11 (some .int) D G ad) (n : Nat)   (v1 : Int32) (v3 : Int32)   (st : St) (res : (Int32 × St))  (hf : fX11_readWord_s101 n   v1 v3 st = some res) : At p l e (rmK 1) s m args below meth c D G ad (MQI D G ad below args s res) 8 st [(1, .int v1), (3, .int v3)] 101 [] := by
  obtain ⟨hx, hb, hml, hown, hts, hr, hlk, hK, had, hSt⟩ := id C
  intro H locs ls hl hP hS
  unfold fX11_readWord_s101 at hf
  refine lv_iconst (v := (-1)) hx hb dX11_readWord_101 (by decide) ?_
  refine lv_iload_n hx hb dX11_readWord_102 rfl (lv_at hl 0 rfl) ?_
  refine lv_isub hx hb dX11_readWord_103 ?_
  refine lv_iload_n hx hb dX11_readWord_104 rfl (lv_at hl 1 rfl) ?_
  refine lv_isub hx hb dX11_readWord_105 ?_
  exact g_iret hx hb hr hlk hP hS dX11_readWord_106 hf
def fX11_readWord_s96 (n : Nat) (K6 : Int32 → Int32 → Int32 → St → Option (Int32 × St))  (v1 : Int32) (v3 : Int32) (v5 : Int32) (st : St) : Option (Int32 × St) := if v5 = 0 then fX11_readWord_s101 n v1 v3 st else fX11_readWord_s107 n K6 v1 v3 v5 st
set_option maxHeartbeats 4000000 in
set_option maxRecDepth 100000 in
theorem wX11_readWord_s96 (C : Cx p s m args meth c cX11_readWord 8 wsL_law RX11 (some .int) D G ad) (n : Nat) (K6 : Int32 → Int32 → Int32 → St → Option (Int32 × St))  (v1 : Int32) (v3 : Int32) (v5 : Int32)   (st : St) (res : (Int32 × St)) (hK6 : ∀ (v1 : Int32) (v2 : Int32) (v3 : Int32) (st : St), K6 v1 v2 v3 st = some res → At p l e (rmK 1) s m args below meth c D G ad (MQI D G ad below args s res) 8 st [(0, .ref (ad 130)), (1, .int v1), (2, .int v2), (3, .int v3)] 6 []) (hf : fX11_readWord_s96 n K6  v1 v3 v5 st = some res) : At p l e (rmK 1) s m args below meth c D G ad (MQI D G ad below args s res) 8 st [(0, .ref (ad 130)), (1, .int v1), (3, .int v3), (5, .int v5)] 96 [] := by
  obtain ⟨hx, hb, hml, hown, hts, hr, hlk, hK, had, hSt⟩ := id C
  intro H locs ls hl hP hS
  unfold fX11_readWord_s96 at hf
  refine lv_iload hx hb dX11_readWord_96 (lv_at hl 3 rfl) ?_
  refine lv_if_ne (tgt := 107) hx hb dX11_readWord_98 (by decide) (fun q => ?_) (fun q => ?_)
  · exact wX11_readWord_s107 C n K6 v1 v3 v5 st res hK6 (ie hf q) H locs ls (lv_sub hl [0, 1, 2, 3] rfl) hP hS
  · exact wX11_readWord_s101 C n v1 v3 st res (it hf q) H locs ls (lv_sub hl [1, 2] rfl) hP hS
def fX11_readWord_s87 (n : Nat) (K6 : Int32 → Int32 → Int32 → St → Option (Int32 × St)) (K21 : Int32 → Int32 → Int32 → Int32 → Int32 → Int32 → St → Option (Int32 × St))  (v1 : Int32) (v2 : Int32) (v3 : Int32) (v4 : Int32) (v6 : Int32) (k0 : Int32) (k1 : Int32) (st : St) : Option (Int32 × St) := K21 v1 v2 v3 v4 (k0 ||| k1) (v6 + 1) st
set_option maxHeartbeats 4000000 in
set_option maxRecDepth 100000 in
theorem wX11_readWord_s87 (C : Cx p s m args meth c cX11_readWord 8 wsL_law RX11 (some .int) D G ad) (n : Nat) (K6 : Int32 → Int32 → Int32 → St → Option (Int32 × St)) (K21 : Int32 → Int32 → Int32 → Int32 → Int32 → Int32 → St → Option (Int32 × St))  (v1 : Int32) (v2 : Int32) (v3 : Int32) (v4 : Int32) (v6 : Int32) (k0 : Int32) (k1 : Int32)   (st : St) (res : (Int32 × St)) (hK6 : ∀ (v1 : Int32) (v2 : Int32) (v3 : Int32) (st : St), K6 v1 v2 v3 st = some res → At p l e (rmK 1) s m args below meth c D G ad (MQI D G ad below args s res) 8 st [(0, .ref (ad 130)), (1, .int v1), (2, .int v2), (3, .int v3)] 6 []) (hK21 : ∀ (v1 : Int32) (v2 : Int32) (v3 : Int32) (v4 : Int32) (v5 : Int32) (v6 : Int32) (st : St), K21 v1 v2 v3 v4 v5 v6 st = some res → At p l e (rmK 1) s m args below meth c D G ad (MQI D G ad below args s res) 8 st [(0, .ref (ad 130)), (1, .int v1), (2, .int v2), (3, .int v3), (4, .int v4), (5, .int v5), (6, .int v6)] 21 []) (hf : fX11_readWord_s87 n K6 K21  v1 v2 v3 v4 v6 k0 k1 st = some res) : At p l e (rmK 1) s m args below meth c D G ad (MQI D G ad below args s res) 8 st [(0, .ref (ad 130)), (1, .int v1), (2, .int v2), (3, .int v3), (4, .int v4), (6, .int v6)] 87 [.int k1, .int k0] := by
  obtain ⟨hx, hb, hml, hown, hts, hr, hlk, hK, had, hSt⟩ := id C
  intro H locs ls hl hP hS
  unfold fX11_readWord_s87 at hf
  refine lv_ior hx hb dX11_readWord_87 ?_
  refine lv_istore (lv' := [(5, .int (k0 ||| k1)), (0, .ref (ad 130)), (1, .int v1), (2, .int v2), (3, .int v3), (4, .int v4), (6, .int v6)]) hx hb dX11_readWord_88 hl (by decide) rfl (fun ls hl => ?_)
  refine lv_iinc (v := v6 + 1) (lv' := [(6, .int (v6 + 1)), (5, .int (k0 ||| k1)), (0, .ref (ad 130)), (1, .int v1), (2, .int v2), (3, .int v3), (4, .int v4)]) hx hb dX11_readWord_90 hl (k := 6) rfl rfl (by decide) rfl (fun ls hl => ?_)
  refine lv_goto (tgt := 21) hx hb dX11_readWord_93 (by decide) ?_
  exact hK21 v1 v2 v3 v4 (k0 ||| k1) (v6 + 1)  st hf H locs ls (lv_sub hl [2, 3, 4, 5, 6, 1, 0] rfl) hP hS
def fX11_readWord_s86 (n : Nat) (K6 : Int32 → Int32 → Int32 → St → Option (Int32 × St)) (K21 : Int32 → Int32 → Int32 → Int32 → Int32 → Int32 → St → Option (Int32 × St))  (v1 : Int32) (v2 : Int32) (v3 : Int32) (v4 : Int32) (v6 : Int32) (k0 : Int32) (st : St) : Option (Int32 × St) := fX11_readWord_s87 n K6 K21 v1 v2 v3 v4 v6 k0 0 st
set_option maxHeartbeats 4000000 in
set_option maxRecDepth 100000 in
theorem wX11_readWord_s86 (C : Cx p s m args meth c cX11_readWord 8 wsL_law RX11 (some .int) D G ad) (n : Nat) (K6 : Int32 → Int32 → Int32 → St → Option (Int32 × St)) (K21 : Int32 → Int32 → Int32 → Int32 → Int32 → Int32 → St → Option (Int32 × St))  (v1 : Int32) (v2 : Int32) (v3 : Int32) (v4 : Int32) (v6 : Int32) (k0 : Int32)   (st : St) (res : (Int32 × St)) (hK6 : ∀ (v1 : Int32) (v2 : Int32) (v3 : Int32) (st : St), K6 v1 v2 v3 st = some res → At p l e (rmK 1) s m args below meth c D G ad (MQI D G ad below args s res) 8 st [(0, .ref (ad 130)), (1, .int v1), (2, .int v2), (3, .int v3)] 6 []) (hK21 : ∀ (v1 : Int32) (v2 : Int32) (v3 : Int32) (v4 : Int32) (v5 : Int32) (v6 : Int32) (st : St), K21 v1 v2 v3 v4 v5 v6 st = some res → At p l e (rmK 1) s m args below meth c D G ad (MQI D G ad below args s res) 8 st [(0, .ref (ad 130)), (1, .int v1), (2, .int v2), (3, .int v3), (4, .int v4), (5, .int v5), (6, .int v6)] 21 []) (hf : fX11_readWord_s86 n K6 K21  v1 v2 v3 v4 v6 k0 st = some res) : At p l e (rmK 1) s m args below meth c D G ad (MQI D G ad below args s res) 8 st [(0, .ref (ad 130)), (1, .int v1), (2, .int v2), (3, .int v3), (4, .int v4), (6, .int v6)] 86 [.int k0] := by
  obtain ⟨hx, hb, hml, hown, hts, hr, hlk, hK, had, hSt⟩ := id C
  intro H locs ls hl hP hS
  unfold fX11_readWord_s86 at hf
  refine lv_iconst (v := 0) hx hb dX11_readWord_86 (by decide) ?_
  exact wX11_readWord_s87 C n K6 K21 v1 v2 v3 v4 v6 k0 0 st res hK6 hK21 hf H locs ls (lv_sub hl [0, 1, 2, 3, 4, 5] rfl) hP hS
def fX11_readWord_s79 (n : Nat) (K6 : Int32 → Int32 → Int32 → St → Option (Int32 × St)) (K21 : Int32 → Int32 → Int32 → Int32 → Int32 → Int32 → St → Option (Int32 × St))  (v1 : Int32) (v2 : Int32) (v3 : Int32) (v4 : Int32) (v6 : Int32) (k0 : Int32) (st : St) : Option (Int32 × St) := fX11_readWord_s87 n K6 K21 v1 v2 v3 v4 v6 k0 (1 <<< (v6 &&& 31)) st
set_option maxHeartbeats 4000000 in
set_option maxRecDepth 100000 in
theorem wX11_readWord_s79 (C : Cx p s m args meth c cX11_readWord 8 wsL_law RX11 (some .int) D G ad) (n : Nat) (K6 : Int32 → Int32 → Int32 → St → Option (Int32 × St)) (K21 : Int32 → Int32 → Int32 → Int32 → Int32 → Int32 → St → Option (Int32 × St))  (v1 : Int32) (v2 : Int32) (v3 : Int32) (v4 : Int32) (v6 : Int32) (k0 : Int32)   (st : St) (res : (Int32 × St)) (hK6 : ∀ (v1 : Int32) (v2 : Int32) (v3 : Int32) (st : St), K6 v1 v2 v3 st = some res → At p l e (rmK 1) s m args below meth c D G ad (MQI D G ad below args s res) 8 st [(0, .ref (ad 130)), (1, .int v1), (2, .int v2), (3, .int v3)] 6 []) (hK21 : ∀ (v1 : Int32) (v2 : Int32) (v3 : Int32) (v4 : Int32) (v5 : Int32) (v6 : Int32) (st : St), K21 v1 v2 v3 v4 v5 v6 st = some res → At p l e (rmK 1) s m args below meth c D G ad (MQI D G ad below args s res) 8 st [(0, .ref (ad 130)), (1, .int v1), (2, .int v2), (3, .int v3), (4, .int v4), (5, .int v5), (6, .int v6)] 21 []) (hf : fX11_readWord_s79 n K6 K21  v1 v2 v3 v4 v6 k0 st = some res) : At p l e (rmK 1) s m args below meth c D G ad (MQI D G ad below args s res) 8 st [(0, .ref (ad 130)), (1, .int v1), (2, .int v2), (3, .int v3), (4, .int v4), (6, .int v6)] 79 [.int k0] := by
  obtain ⟨hx, hb, hml, hown, hts, hr, hlk, hK, had, hSt⟩ := id C
  intro H locs ls hl hP hS
  unfold fX11_readWord_s79 at hf
  refine lv_iconst (v := 1) hx hb dX11_readWord_79 (by decide) ?_
  refine lv_iload hx hb dX11_readWord_80 (lv_at hl 5 rfl) ?_
  refine lv_ishl hx hb dX11_readWord_82 ?_
  refine lv_goto (tgt := 87) hx hb dX11_readWord_83 (by decide) ?_
  exact wX11_readWord_s87 C n K6 K21 v1 v2 v3 v4 v6 k0 (1 <<< (v6 &&& 31)) st res hK6 hK21 hf H locs ls (lv_sub hl [0, 1, 2, 3, 4, 5] rfl) hP hS
def fX11_readWord_s70 (n : Nat) (K6 : Int32 → Int32 → Int32 → St → Option (Int32 × St)) (K21 : Int32 → Int32 → Int32 → Int32 → Int32 → Int32 → St → Option (Int32 × St))  (v1 : Int32) (v2 : Int32) (v3 : Int32) (v4 : Int32) (v5 : Int32) (v6 : Int32) (k0 : Int32) (st : St) : Option (Int32 × St) := if k0 = 0 then fX11_readWord_s86 n K6 K21 v1 v2 v3 v4 v6 v5 st else fX11_readWord_s79 n K6 K21 v1 v2 v3 v4 v6 v5 st
set_option maxHeartbeats 4000000 in
set_option maxRecDepth 100000 in
theorem wX11_readWord_s70 (C : Cx p s m args meth c cX11_readWord 8 wsL_law RX11 (some .int) D G ad) (n : Nat) (K6 : Int32 → Int32 → Int32 → St → Option (Int32 × St)) (K21 : Int32 → Int32 → Int32 → Int32 → Int32 → Int32 → St → Option (Int32 × St))  (v1 : Int32) (v2 : Int32) (v3 : Int32) (v4 : Int32) (v5 : Int32) (v6 : Int32) (k0 : Int32)   (st : St) (res : (Int32 × St)) (hK6 : ∀ (v1 : Int32) (v2 : Int32) (v3 : Int32) (st : St), K6 v1 v2 v3 st = some res → At p l e (rmK 1) s m args below meth c D G ad (MQI D G ad below args s res) 8 st [(0, .ref (ad 130)), (1, .int v1), (2, .int v2), (3, .int v3)] 6 []) (hK21 : ∀ (v1 : Int32) (v2 : Int32) (v3 : Int32) (v4 : Int32) (v5 : Int32) (v6 : Int32) (st : St), K21 v1 v2 v3 v4 v5 v6 st = some res → At p l e (rmK 1) s m args below meth c D G ad (MQI D G ad below args s res) 8 st [(0, .ref (ad 130)), (1, .int v1), (2, .int v2), (3, .int v3), (4, .int v4), (5, .int v5), (6, .int v6)] 21 []) (hf : fX11_readWord_s70 n K6 K21  v1 v2 v3 v4 v5 v6 k0 st = some res) : At p l e (rmK 1) s m args below meth c D G ad (MQI D G ad below args s res) 8 st [(0, .ref (ad 130)), (1, .int v1), (2, .int v2), (3, .int v3), (4, .int v4), (5, .int v5), (6, .int v6)] 70 [.int k0] := by
  obtain ⟨hx, hb, hml, hown, hts, hr, hlk, hK, had, hSt⟩ := id C
  intro H locs ls hl hP hS
  unfold fX11_readWord_s70 at hf
  refine lv_istore (lv' := [(7, .int k0), (0, .ref (ad 130)), (1, .int v1), (2, .int v2), (3, .int v3), (4, .int v4), (5, .int v5), (6, .int v6)]) hx hb dX11_readWord_70 hl (by decide) rfl (fun ls hl => ?_)
  refine lv_iload hx hb dX11_readWord_72 (lv_at hl 6 rfl) ?_
  refine lv_iload hx hb dX11_readWord_74 (lv_at hl 0 rfl) ?_
  refine lv_if_eq (tgt := 86) hx hb dX11_readWord_76 (by decide) (fun q => ?_) (fun q => ?_)
  · exact wX11_readWord_s86 C n K6 K21 v1 v2 v3 v4 v6 v5 st res hK6 hK21 (it hf q) H locs ls (lv_sub hl [1, 2, 3, 4, 5, 7] rfl) hP hS
  · exact wX11_readWord_s79 C n K6 K21 v1 v2 v3 v4 v6 v5 st res hK6 hK21 (ie hf q) H locs ls (lv_sub hl [1, 2, 3, 4, 5, 7] rfl) hP hS
def fX11_readWord_s69 (n : Nat) (K6 : Int32 → Int32 → Int32 → St → Option (Int32 × St)) (K21 : Int32 → Int32 → Int32 → Int32 → Int32 → Int32 → St → Option (Int32 × St))  (v1 : Int32) (v2 : Int32) (v3 : Int32) (v4 : Int32) (v5 : Int32) (v6 : Int32) (st : St) : Option (Int32 × St) := fX11_readWord_s70 n K6 K21 v1 v2 v3 v4 v5 v6 0 st
set_option maxHeartbeats 4000000 in
set_option maxRecDepth 100000 in
theorem wX11_readWord_s69 (C : Cx p s m args meth c cX11_readWord 8 wsL_law RX11 (some .int) D G ad) (n : Nat) (K6 : Int32 → Int32 → Int32 → St → Option (Int32 × St)) (K21 : Int32 → Int32 → Int32 → Int32 → Int32 → Int32 → St → Option (Int32 × St))  (v1 : Int32) (v2 : Int32) (v3 : Int32) (v4 : Int32) (v5 : Int32) (v6 : Int32)   (st : St) (res : (Int32 × St)) (hK6 : ∀ (v1 : Int32) (v2 : Int32) (v3 : Int32) (st : St), K6 v1 v2 v3 st = some res → At p l e (rmK 1) s m args below meth c D G ad (MQI D G ad below args s res) 8 st [(0, .ref (ad 130)), (1, .int v1), (2, .int v2), (3, .int v3)] 6 []) (hK21 : ∀ (v1 : Int32) (v2 : Int32) (v3 : Int32) (v4 : Int32) (v5 : Int32) (v6 : Int32) (st : St), K21 v1 v2 v3 v4 v5 v6 st = some res → At p l e (rmK 1) s m args below meth c D G ad (MQI D G ad below args s res) 8 st [(0, .ref (ad 130)), (1, .int v1), (2, .int v2), (3, .int v3), (4, .int v4), (5, .int v5), (6, .int v6)] 21 []) (hf : fX11_readWord_s69 n K6 K21  v1 v2 v3 v4 v5 v6 st = some res) : At p l e (rmK 1) s m args below meth c D G ad (MQI D G ad below args s res) 8 st [(0, .ref (ad 130)), (1, .int v1), (2, .int v2), (3, .int v3), (4, .int v4), (5, .int v5), (6, .int v6)] 69 [] := by
  obtain ⟨hx, hb, hml, hown, hts, hr, hlk, hK, had, hSt⟩ := id C
  intro H locs ls hl hP hS
  unfold fX11_readWord_s69 at hf
  refine lv_iconst (v := 0) hx hb dX11_readWord_69 (by decide) ?_
  exact wX11_readWord_s70 C n K6 K21 v1 v2 v3 v4 v5 v6 0 st res hK6 hK21 hf H locs ls (lv_sub hl [0, 1, 2, 3, 4, 5, 6] rfl) hP hS
def fX11_readWord_s65 (n : Nat) (K6 : Int32 → Int32 → Int32 → St → Option (Int32 × St)) (K21 : Int32 → Int32 → Int32 → Int32 → Int32 → Int32 → St → Option (Int32 × St))  (v1 : Int32) (v2 : Int32) (v3 : Int32) (v4 : Int32) (v5 : Int32) (v6 : Int32) (st : St) : Option (Int32 × St) := fX11_readWord_s70 n K6 K21 v1 v2 v3 v4 v5 v6 1 st
set_option maxHeartbeats 4000000 in
set_option maxRecDepth 100000 in
theorem wX11_readWord_s65 (C : Cx p s m args meth c cX11_readWord 8 wsL_law RX11 (some .int) D G ad) (n : Nat) (K6 : Int32 → Int32 → Int32 → St → Option (Int32 × St)) (K21 : Int32 → Int32 → Int32 → Int32 → Int32 → Int32 → St → Option (Int32 × St))  (v1 : Int32) (v2 : Int32) (v3 : Int32) (v4 : Int32) (v5 : Int32) (v6 : Int32)   (st : St) (res : (Int32 × St)) (hK6 : ∀ (v1 : Int32) (v2 : Int32) (v3 : Int32) (st : St), K6 v1 v2 v3 st = some res → At p l e (rmK 1) s m args below meth c D G ad (MQI D G ad below args s res) 8 st [(0, .ref (ad 130)), (1, .int v1), (2, .int v2), (3, .int v3)] 6 []) (hK21 : ∀ (v1 : Int32) (v2 : Int32) (v3 : Int32) (v4 : Int32) (v5 : Int32) (v6 : Int32) (st : St), K21 v1 v2 v3 v4 v5 v6 st = some res → At p l e (rmK 1) s m args below meth c D G ad (MQI D G ad below args s res) 8 st [(0, .ref (ad 130)), (1, .int v1), (2, .int v2), (3, .int v3), (4, .int v4), (5, .int v5), (6, .int v6)] 21 []) (hf : fX11_readWord_s65 n K6 K21  v1 v2 v3 v4 v5 v6 st = some res) : At p l e (rmK 1) s m args below meth c D G ad (MQI D G ad below args s res) 8 st [(0, .ref (ad 130)), (1, .int v1), (2, .int v2), (3, .int v3), (4, .int v4), (5, .int v5), (6, .int v6)] 65 [] := by
  obtain ⟨hx, hb, hml, hown, hts, hr, hlk, hK, had, hSt⟩ := id C
  intro H locs ls hl hP hS
  unfold fX11_readWord_s65 at hf
  refine lv_iconst (v := 1) hx hb dX11_readWord_65 (by decide) ?_
  refine lv_goto (tgt := 70) hx hb dX11_readWord_66 (by decide) ?_
  exact wX11_readWord_s70 C n K6 K21 v1 v2 v3 v4 v5 v6 1 st res hK6 hK21 hf H locs ls (lv_sub hl [0, 1, 2, 3, 4, 5, 6] rfl) hP hS
def fX11_readWord_s60 (n : Nat) (K6 : Int32 → Int32 → Int32 → St → Option (Int32 × St)) (K21 : Int32 → Int32 → Int32 → Int32 → Int32 → Int32 → St → Option (Int32 × St))  (v1 : Int32) (v2 : Int32) (v3 : Int32) (v4 : Int32) (v5 : Int32) (v6 : Int32) (st : St) : Option (Int32 × St) := if v4 ≤ 0 then fX11_readWord_s69 n K6 K21 v1 v2 v3 v4 v5 v6 st else fX11_readWord_s65 n K6 K21 v1 v2 v3 v4 v5 v6 st
set_option maxHeartbeats 4000000 in
set_option maxRecDepth 100000 in
theorem wX11_readWord_s60 (C : Cx p s m args meth c cX11_readWord 8 wsL_law RX11 (some .int) D G ad) (n : Nat) (K6 : Int32 → Int32 → Int32 → St → Option (Int32 × St)) (K21 : Int32 → Int32 → Int32 → Int32 → Int32 → Int32 → St → Option (Int32 × St))  (v1 : Int32) (v2 : Int32) (v3 : Int32) (v4 : Int32) (v5 : Int32) (v6 : Int32)   (st : St) (res : (Int32 × St)) (hK6 : ∀ (v1 : Int32) (v2 : Int32) (v3 : Int32) (st : St), K6 v1 v2 v3 st = some res → At p l e (rmK 1) s m args below meth c D G ad (MQI D G ad below args s res) 8 st [(0, .ref (ad 130)), (1, .int v1), (2, .int v2), (3, .int v3)] 6 []) (hK21 : ∀ (v1 : Int32) (v2 : Int32) (v3 : Int32) (v4 : Int32) (v5 : Int32) (v6 : Int32) (st : St), K21 v1 v2 v3 v4 v5 v6 st = some res → At p l e (rmK 1) s m args below meth c D G ad (MQI D G ad below args s res) 8 st [(0, .ref (ad 130)), (1, .int v1), (2, .int v2), (3, .int v3), (4, .int v4), (5, .int v5), (6, .int v6)] 21 []) (hf : fX11_readWord_s60 n K6 K21  v1 v2 v3 v4 v5 v6 st = some res) : At p l e (rmK 1) s m args below meth c D G ad (MQI D G ad below args s res) 8 st [(0, .ref (ad 130)), (1, .int v1), (2, .int v2), (3, .int v3), (4, .int v4), (5, .int v5), (6, .int v6)] 60 [] := by
  obtain ⟨hx, hb, hml, hown, hts, hr, hlk, hK, had, hSt⟩ := id C
  intro H locs ls hl hP hS
  unfold fX11_readWord_s60 at hf
  refine lv_iload hx hb dX11_readWord_60 (lv_at hl 4 rfl) ?_
  refine lv_if_le (tgt := 69) hx hb dX11_readWord_62 (by decide) (fun q => ?_) (fun q => ?_)
  · exact wX11_readWord_s69 C n K6 K21 v1 v2 v3 v4 v5 v6 st res hK6 hK21 (it hf q) H locs ls (lv_sub hl [0, 1, 2, 3, 4, 5, 6] rfl) hP hS
  · exact wX11_readWord_s65 C n K6 K21 v1 v2 v3 v4 v5 v6 st res hK6 hK21 (ie hf q) H locs ls (lv_sub hl [0, 1, 2, 3, 4, 5, 6] rfl) hP hS
def fX11_readWord_s43 (n : Nat) (K6 : Int32 → Int32 → Int32 → St → Option (Int32 × St)) (K21 : Int32 → Int32 → Int32 → Int32 → Int32 → Int32 → St → Option (Int32 × St))  (v1 : Int32) (v2 : Int32) (v3 : Int32) (v4 : Int32) (v5 : Int32) (v6 : Int32) (st : St) : Option (Int32 × St) := if inb ((6 * v6) + v3) 54 = true then (if (st.1 156 ((6 * v6) + v3).toNatClampNeg) = v4 then fX11_readWord_s60 n K6 K21 v1 v2 v3 v4 v5 v6 st else fX11_readWord_s69 n K6 K21 v1 v2 v3 v4 v5 v6 st) else none
set_option maxHeartbeats 4000000 in
set_option maxRecDepth 100000 in
theorem wX11_readWord_s43 (C : Cx p s m args meth c cX11_readWord 8 wsL_law RX11 (some .int) D G ad) (n : Nat) (K6 : Int32 → Int32 → Int32 → St → Option (Int32 × St)) (K21 : Int32 → Int32 → Int32 → Int32 → Int32 → Int32 → St → Option (Int32 × St))  (v1 : Int32) (v2 : Int32) (v3 : Int32) (v4 : Int32) (v5 : Int32) (v6 : Int32)   (st : St) (res : (Int32 × St)) (hK6 : ∀ (v1 : Int32) (v2 : Int32) (v3 : Int32) (st : St), K6 v1 v2 v3 st = some res → At p l e (rmK 1) s m args below meth c D G ad (MQI D G ad below args s res) 8 st [(0, .ref (ad 130)), (1, .int v1), (2, .int v2), (3, .int v3)] 6 []) (hK21 : ∀ (v1 : Int32) (v2 : Int32) (v3 : Int32) (v4 : Int32) (v5 : Int32) (v6 : Int32) (st : St), K21 v1 v2 v3 v4 v5 v6 st = some res → At p l e (rmK 1) s m args below meth c D G ad (MQI D G ad below args s res) 8 st [(0, .ref (ad 130)), (1, .int v1), (2, .int v2), (3, .int v3), (4, .int v4), (5, .int v5), (6, .int v6)] 21 []) (hf : fX11_readWord_s43 n K6 K21  v1 v2 v3 v4 v5 v6 st = some res) : At p l e (rmK 1) s m args below meth c D G ad (MQI D G ad below args s res) 8 st [(0, .ref (ad 130)), (1, .int v1), (2, .int v2), (3, .int v3), (4, .int v4), (5, .int v5), (6, .int v6)] 43 [] := by
  obtain ⟨hx, hb, hml, hown, hts, hr, hlk, hK, had, hSt⟩ := id C
  intro H locs ls hl hP hS
  unfold fX11_readWord_s43 at hf
  refine lv_aload_n hx hb dX11_readWord_43 rfl (lv_at hl 0 rfl) ?_
  refine g_getR hx hb hts inlX11 hown hK hP 130 ct_130 rfl 33 (by decide) (hts _ wm_8_3) rfl dX11_readWord_44 ?_
  refine lv_bipush (v := 6) hx hb dX11_readWord_47 (by decide) ?_
  refine lv_iload hx hb dX11_readWord_49 (lv_at hl 6 rfl) ?_
  refine lv_imul hx hb dX11_readWord_51 ?_
  refine lv_iload_n hx hb dX11_readWord_52 rfl (lv_at hl 3 rfl) ?_
  refine lv_iadd hx hb dX11_readWord_53 ?_
  obtain ⟨g1, hf⟩ := gd hf
  refine g_iald hx hb hK hP 156 ct_156 g1 dX11_readWord_54 ?_
  refine lv_iload hx hb dX11_readWord_55 (lv_at hl 4 rfl) ?_
  refine lv_icmp_ne (tgt := 69) hx hb dX11_readWord_57 (by decide) (fun q => ?_) (fun q => ?_)
  · exact wX11_readWord_s69 C n K6 K21 v1 v2 v3 v4 v5 v6 st res hK6 hK21 (ie hf q) H locs ls (lv_sub hl [0, 1, 2, 3, 4, 5, 6] rfl) hP hS
  · exact wX11_readWord_s60 C n K6 K21 v1 v2 v3 v4 v5 v6 st res hK6 hK21 (it hf q) H locs ls (lv_sub hl [0, 1, 2, 3, 4, 5, 6] rfl) hP hS
def fX11_readWord_s38 (n : Nat) (K6 : Int32 → Int32 → Int32 → St → Option (Int32 × St)) (K21 : Int32 → Int32 → Int32 → Int32 → Int32 → Int32 → St → Option (Int32 × St))  (v1 : Int32) (v2 : Int32) (v3 : Int32) (v4 : Int32) (v5 : Int32) (v6 : Int32) (st : St) : Option (Int32 × St) := if 5 ≤ v3 then fX11_readWord_s69 n K6 K21 v1 v2 v3 v4 v5 v6 st else fX11_readWord_s43 n K6 K21 v1 v2 v3 v4 v5 v6 st
set_option maxHeartbeats 4000000 in
set_option maxRecDepth 100000 in
theorem wX11_readWord_s38 (C : Cx p s m args meth c cX11_readWord 8 wsL_law RX11 (some .int) D G ad) (n : Nat) (K6 : Int32 → Int32 → Int32 → St → Option (Int32 × St)) (K21 : Int32 → Int32 → Int32 → Int32 → Int32 → Int32 → St → Option (Int32 × St))  (v1 : Int32) (v2 : Int32) (v3 : Int32) (v4 : Int32) (v5 : Int32) (v6 : Int32)   (st : St) (res : (Int32 × St)) (hK6 : ∀ (v1 : Int32) (v2 : Int32) (v3 : Int32) (st : St), K6 v1 v2 v3 st = some res → At p l e (rmK 1) s m args below meth c D G ad (MQI D G ad below args s res) 8 st [(0, .ref (ad 130)), (1, .int v1), (2, .int v2), (3, .int v3)] 6 []) (hK21 : ∀ (v1 : Int32) (v2 : Int32) (v3 : Int32) (v4 : Int32) (v5 : Int32) (v6 : Int32) (st : St), K21 v1 v2 v3 v4 v5 v6 st = some res → At p l e (rmK 1) s m args below meth c D G ad (MQI D G ad below args s res) 8 st [(0, .ref (ad 130)), (1, .int v1), (2, .int v2), (3, .int v3), (4, .int v4), (5, .int v5), (6, .int v6)] 21 []) (hf : fX11_readWord_s38 n K6 K21  v1 v2 v3 v4 v5 v6 st = some res) : At p l e (rmK 1) s m args below meth c D G ad (MQI D G ad below args s res) 8 st [(0, .ref (ad 130)), (1, .int v1), (2, .int v2), (3, .int v3), (4, .int v4), (5, .int v5), (6, .int v6)] 38 [] := by
  obtain ⟨hx, hb, hml, hown, hts, hr, hlk, hK, had, hSt⟩ := id C
  intro H locs ls hl hP hS
  unfold fX11_readWord_s38 at hf
  refine lv_iload_n hx hb dX11_readWord_38 rfl (lv_at hl 3 rfl) ?_
  refine lv_iconst (v := 5) hx hb dX11_readWord_39 (by decide) ?_
  refine lv_icmp_ge (tgt := 69) hx hb dX11_readWord_40 (by decide) (fun q => ?_) (fun q => ?_)
  · exact wX11_readWord_s69 C n K6 K21 v1 v2 v3 v4 v5 v6 st res hK6 hK21 (it hf q) H locs ls (lv_sub hl [0, 1, 2, 3, 4, 5, 6] rfl) hP hS
  · exact wX11_readWord_s43 C n K6 K21 v1 v2 v3 v4 v5 v6 st res hK6 hK21 (ie hf q) H locs ls (lv_sub hl [0, 1, 2, 3, 4, 5, 6] rfl) hP hS
def fX11_readWord_s28 (n : Nat) (K6 : Int32 → Int32 → Int32 → St → Option (Int32 × St)) (K21 : Int32 → Int32 → Int32 → Int32 → Int32 → Int32 → St → Option (Int32 × St))  (v1 : Int32) (v2 : Int32) (v3 : Int32) (v4 : Int32) (v5 : Int32) (v6 : Int32) (st : St) : Option (Int32 × St) := if ((v2 >>> (v6 &&& 31)) &&& 1) = 1 then fX11_readWord_s38 n K6 K21 v1 v2 v3 v4 v5 v6 st else fX11_readWord_s69 n K6 K21 v1 v2 v3 v4 v5 v6 st
set_option maxHeartbeats 4000000 in
set_option maxRecDepth 100000 in
theorem wX11_readWord_s28 (C : Cx p s m args meth c cX11_readWord 8 wsL_law RX11 (some .int) D G ad) (n : Nat) (K6 : Int32 → Int32 → Int32 → St → Option (Int32 × St)) (K21 : Int32 → Int32 → Int32 → Int32 → Int32 → Int32 → St → Option (Int32 × St))  (v1 : Int32) (v2 : Int32) (v3 : Int32) (v4 : Int32) (v5 : Int32) (v6 : Int32)   (st : St) (res : (Int32 × St)) (hK6 : ∀ (v1 : Int32) (v2 : Int32) (v3 : Int32) (st : St), K6 v1 v2 v3 st = some res → At p l e (rmK 1) s m args below meth c D G ad (MQI D G ad below args s res) 8 st [(0, .ref (ad 130)), (1, .int v1), (2, .int v2), (3, .int v3)] 6 []) (hK21 : ∀ (v1 : Int32) (v2 : Int32) (v3 : Int32) (v4 : Int32) (v5 : Int32) (v6 : Int32) (st : St), K21 v1 v2 v3 v4 v5 v6 st = some res → At p l e (rmK 1) s m args below meth c D G ad (MQI D G ad below args s res) 8 st [(0, .ref (ad 130)), (1, .int v1), (2, .int v2), (3, .int v3), (4, .int v4), (5, .int v5), (6, .int v6)] 21 []) (hf : fX11_readWord_s28 n K6 K21  v1 v2 v3 v4 v5 v6 st = some res) : At p l e (rmK 1) s m args below meth c D G ad (MQI D G ad below args s res) 8 st [(0, .ref (ad 130)), (1, .int v1), (2, .int v2), (3, .int v3), (4, .int v4), (5, .int v5), (6, .int v6)] 28 [] := by
  obtain ⟨hx, hb, hml, hown, hts, hr, hlk, hK, had, hSt⟩ := id C
  intro H locs ls hl hP hS
  unfold fX11_readWord_s28 at hf
  refine lv_iload_n hx hb dX11_readWord_28 rfl (lv_at hl 2 rfl) ?_
  refine lv_iload hx hb dX11_readWord_29 (lv_at hl 6 rfl) ?_
  refine lv_ishr hx hb dX11_readWord_31 ?_
  refine lv_iconst (v := 1) hx hb dX11_readWord_32 (by decide) ?_
  refine lv_iand hx hb dX11_readWord_33 ?_
  refine lv_iconst (v := 1) hx hb dX11_readWord_34 (by decide) ?_
  refine lv_icmp_ne (tgt := 69) hx hb dX11_readWord_35 (by decide) (fun q => ?_) (fun q => ?_)
  · exact wX11_readWord_s69 C n K6 K21 v1 v2 v3 v4 v5 v6 st res hK6 hK21 (ie hf q) H locs ls (lv_sub hl [0, 1, 2, 3, 4, 5, 6] rfl) hP hS
  · exact wX11_readWord_s38 C n K6 K21 v1 v2 v3 v4 v5 v6 st res hK6 hK21 (it hf q) H locs ls (lv_sub hl [0, 1, 2, 3, 4, 5, 6] rfl) hP hS
def fX11_readWord_s21 (n : Nat) (K6 : Int32 → Int32 → Int32 → St → Option (Int32 × St)) (K21 : Int32 → Int32 → Int32 → Int32 → Int32 → Int32 → St → Option (Int32 × St))  (v1 : Int32) (v2 : Int32) (v3 : Int32) (v4 : Int32) (v5 : Int32) (v6 : Int32) (st : St) : Option (Int32 × St) := if 9 ≤ v6 then fX11_readWord_s96 n K6 v1 v3 v5 st else fX11_readWord_s28 n K6 K21 v1 v2 v3 v4 v5 v6 st
set_option maxHeartbeats 4000000 in
set_option maxRecDepth 100000 in
theorem wX11_readWord_s21 (C : Cx p s m args meth c cX11_readWord 8 wsL_law RX11 (some .int) D G ad) (n : Nat) (K6 : Int32 → Int32 → Int32 → St → Option (Int32 × St)) (K21 : Int32 → Int32 → Int32 → Int32 → Int32 → Int32 → St → Option (Int32 × St))  (v1 : Int32) (v2 : Int32) (v3 : Int32) (v4 : Int32) (v5 : Int32) (v6 : Int32)   (st : St) (res : (Int32 × St)) (hK6 : ∀ (v1 : Int32) (v2 : Int32) (v3 : Int32) (st : St), K6 v1 v2 v3 st = some res → At p l e (rmK 1) s m args below meth c D G ad (MQI D G ad below args s res) 8 st [(0, .ref (ad 130)), (1, .int v1), (2, .int v2), (3, .int v3)] 6 []) (hK21 : ∀ (v1 : Int32) (v2 : Int32) (v3 : Int32) (v4 : Int32) (v5 : Int32) (v6 : Int32) (st : St), K21 v1 v2 v3 v4 v5 v6 st = some res → At p l e (rmK 1) s m args below meth c D G ad (MQI D G ad below args s res) 8 st [(0, .ref (ad 130)), (1, .int v1), (2, .int v2), (3, .int v3), (4, .int v4), (5, .int v5), (6, .int v6)] 21 []) (hf : fX11_readWord_s21 n K6 K21  v1 v2 v3 v4 v5 v6 st = some res) : At p l e (rmK 1) s m args below meth c D G ad (MQI D G ad below args s res) 8 st [(0, .ref (ad 130)), (1, .int v1), (2, .int v2), (3, .int v3), (4, .int v4), (5, .int v5), (6, .int v6)] 21 [] := by
  obtain ⟨hx, hb, hml, hown, hts, hr, hlk, hK, had, hSt⟩ := id C
  intro H locs ls hl hP hS
  unfold fX11_readWord_s21 at hf
  refine lv_iload hx hb dX11_readWord_21 (lv_at hl 6 rfl) ?_
  refine lv_bipush (v := 9) hx hb dX11_readWord_23 (by decide) ?_
  refine lv_icmp_ge (tgt := 96) hx hb dX11_readWord_25 (by decide) (fun q => ?_) (fun q => ?_)
  · exact wX11_readWord_s96 C n K6 v1 v3 v5 st res hK6 (it hf q) H locs ls (lv_sub hl [0, 1, 3, 5] rfl) hP hS
  · exact wX11_readWord_s28 C n K6 K21 v1 v2 v3 v4 v5 v6 st res hK6 hK21 (ie hf q) H locs ls (lv_sub hl [0, 1, 2, 3, 4, 5, 6] rfl) hP hS
def fX11_readWord_L21 (n : Nat) (K6 : Int32 → Int32 → Int32 → St → Option (Int32 × St))  : Nat → Int32 → Int32 → Int32 → Int32 → Int32 → Int32 → St → Option (Int32 × St)
  | 0, _, _, _, _, _, _, _ => none
  | k + 1, v1, v2, v3, v4, v5, v6, st => fX11_readWord_s21 n K6 (fX11_readWord_L21 n K6 k)  v1 v2 v3 v4 v5 v6 st
theorem wX11_readWord_L21 (C : Cx p s m args meth c cX11_readWord 8 wsL_law RX11 (some .int) D G ad) (n : Nat) (K6 : Int32 → Int32 → Int32 → St → Option (Int32 × St))   (res : (Int32 × St)) (hK6 : ∀ (v1 : Int32) (v2 : Int32) (v3 : Int32) (st : St), K6 v1 v2 v3 st = some res → At p l e (rmK 1) s m args below meth c D G ad (MQI D G ad below args s res) 8 st [(0, .ref (ad 130)), (1, .int v1), (2, .int v2), (3, .int v3)] 6 []) : ∀ (k : Nat) (v1 : Int32) (v2 : Int32) (v3 : Int32) (v4 : Int32) (v5 : Int32) (v6 : Int32)  (st : St), fX11_readWord_L21 n K6 k v1 v2 v3 v4 v5 v6 st = some res → At p l e (rmK 1) s m args below meth c D G ad (MQI D G ad below args s res) 8 st [(0, .ref (ad 130)), (1, .int v1), (2, .int v2), (3, .int v3), (4, .int v4), (5, .int v5), (6, .int v6)] 21 [] := by
  intro k
  induction k with
  | zero => intro v1 v2 v3 v4 v5 v6  st h; exact absurd h (by intro q; cases q)
  | succ k ih => intro v1 v2 v3 v4 v5 v6  st h; exact wX11_readWord_s21 C n K6 (fX11_readWord_L21 n K6 k)  v1 v2 v3 v4 v5 v6   st res hK6 ih h
def fX11_readWord_s13 (n : Nat) (K6 : Int32 → Int32 → Int32 → St → Option (Int32 × St))  (v1 : Int32) (v2 : Int32) (v3 : Int32) (k0 : Int32) (st : St) : Option (Int32 × St) := fX11_readWord_L21 n K6 n v1 v2 v3 k0 0 0 st
set_option maxHeartbeats 4000000 in
set_option maxRecDepth 100000 in
theorem wX11_readWord_s13 (C : Cx p s m args meth c cX11_readWord 8 wsL_law RX11 (some .int) D G ad) (n : Nat) (K6 : Int32 → Int32 → Int32 → St → Option (Int32 × St))  (v1 : Int32) (v2 : Int32) (v3 : Int32) (k0 : Int32)   (st : St) (res : (Int32 × St)) (hK6 : ∀ (v1 : Int32) (v2 : Int32) (v3 : Int32) (st : St), K6 v1 v2 v3 st = some res → At p l e (rmK 1) s m args below meth c D G ad (MQI D G ad below args s res) 8 st [(0, .ref (ad 130)), (1, .int v1), (2, .int v2), (3, .int v3)] 6 []) (hf : fX11_readWord_s13 n K6  v1 v2 v3 k0 st = some res) : At p l e (rmK 1) s m args below meth c D G ad (MQI D G ad below args s res) 8 st [(0, .ref (ad 130)), (1, .int v1), (2, .int v2), (3, .int v3)] 13 [.int k0] := by
  obtain ⟨hx, hb, hml, hown, hts, hr, hlk, hK, had, hSt⟩ := id C
  intro H locs ls hl hP hS
  unfold fX11_readWord_s13 at hf
  refine lv_istore (lv' := [(4, .int k0), (0, .ref (ad 130)), (1, .int v1), (2, .int v2), (3, .int v3)]) hx hb dX11_readWord_13 hl (by decide) rfl (fun ls hl => ?_)
  refine lv_iconst (v := 0) hx hb dX11_readWord_15 (by decide) ?_
  refine lv_istore (lv' := [(5, .int 0), (4, .int k0), (0, .ref (ad 130)), (1, .int v1), (2, .int v2), (3, .int v3)]) hx hb dX11_readWord_16 hl (by decide) rfl (fun ls hl => ?_)
  refine lv_iconst (v := 0) hx hb dX11_readWord_18 (by decide) ?_
  refine lv_istore (lv' := [(6, .int 0), (5, .int 0), (4, .int k0), (0, .ref (ad 130)), (1, .int v1), (2, .int v2), (3, .int v3)]) hx hb dX11_readWord_19 hl (by decide) rfl (fun ls hl => ?_)
  exact wX11_readWord_L21 C n K6 res hK6 n v1 v2 v3 k0 0 0 st hf H locs ls (lv_sub hl [3, 4, 5, 6, 2, 1, 0] rfl) hP hS
def fX11_readWord_s6 (n : Nat) (K6 : Int32 → Int32 → Int32 → St → Option (Int32 × St))  (v1 : Int32) (v2 : Int32) (v3 : Int32) (st : St) : Option (Int32 × St) := (fX11_byteAt n (v1 + v3) st).bind (fun q => fX11_readWord_s13 n K6 v1 v2 v3 q.1 q.2)
set_option maxHeartbeats 4000000 in
set_option maxRecDepth 100000 in
theorem wX11_readWord_s6 (C : Cx p s m args meth c cX11_readWord 8 wsL_law RX11 (some .int) D G ad) (n : Nat) (K6 : Int32 → Int32 → Int32 → St → Option (Int32 × St))  (v1 : Int32) (v2 : Int32) (v3 : Int32)   (st : St) (res : (Int32 × St)) (hK6 : ∀ (v1 : Int32) (v2 : Int32) (v3 : Int32) (st : St), K6 v1 v2 v3 st = some res → At p l e (rmK 1) s m args below meth c D G ad (MQI D G ad below args s res) 8 st [(0, .ref (ad 130)), (1, .int v1), (2, .int v2), (3, .int v3)] 6 []) (hf : fX11_readWord_s6 n K6  v1 v2 v3 st = some res) : At p l e (rmK 1) s m args below meth c D G ad (MQI D G ad below args s res) 8 st [(0, .ref (ad 130)), (1, .int v1), (2, .int v2), (3, .int v3)] 6 [] := by
  obtain ⟨hx, hb, hml, hown, hts, hr, hlk, hK, had, hSt⟩ := id C
  intro H locs ls hl hP hS
  unfold fX11_readWord_s6 at hf
  refine lv_aload_n hx hb dX11_readWord_6 rfl (lv_at hl 0 rfl) ?_
  refine lv_iload_n hx hb dX11_readWord_7 rfl (lv_at hl 1 rfl) ?_
  refine lv_iload_n hx hb dX11_readWord_8 rfl (lv_at hl 3 rfl) ?_
  refine lv_iadd hx hb dX11_readWord_9 ?_
  obtain ⟨q, hq, hf⟩ := bd hf
  refine gcV_i (k := 0) (o := 130) (As := [.int (v1 + v3)]) (rest := []) hx hb hml hown hts hK hSt hP hS hl.1 (goodV wm_30_20 wm_30_21 wm_30_22 wm_1_5 wm_30_23) okX11_byteAt ct_130 rfl rfl (Nat.le_of_ble_eq_true rfl) (Nat.le_of_ble_eq_true rfl) rfl rfl (Nat.le_of_ble_eq_true rfl) dX11_readWord_10 (kX11_byteAt l D G ad had n  (v1 + v3) st q hq) (fun H locs hP hS => ?_)
  exact wX11_readWord_s13 C n K6 v1 v2 v3 q.1 q.2 res hK6 hf H locs ls (lv_sub hl [0, 1, 2, 3] rfl) hP hS
def fX11_readWord_L6 (n : Nat)   : Nat → Int32 → Int32 → Int32 → St → Option (Int32 × St)
  | 0, _, _, _, _ => none
  | k + 1, v1, v2, v3, st => fX11_readWord_s6 n (fX11_readWord_L6 n k)  v1 v2 v3 st
theorem wX11_readWord_L6 (C : Cx p s m args meth c cX11_readWord 8 wsL_law RX11 (some .int) D G ad) (n : Nat)    (res : (Int32 × St))  : ∀ (k : Nat) (v1 : Int32) (v2 : Int32) (v3 : Int32)  (st : St), fX11_readWord_L6 n k v1 v2 v3 st = some res → At p l e (rmK 1) s m args below meth c D G ad (MQI D G ad below args s res) 8 st [(0, .ref (ad 130)), (1, .int v1), (2, .int v2), (3, .int v3)] 6 [] := by
  intro k
  induction k with
  | zero => intro v1 v2 v3  st h; exact absurd h (by intro q; cases q)
  | succ k ih => intro v1 v2 v3  st h; exact wX11_readWord_s6 C n (fX11_readWord_L6 n k)  v1 v2 v3   st res ih h
def fX11_readWord_s0 (n : Nat)   (v1 : Int32) (st : St) : Option (Int32 × St) := fX11_readWord_L6 n n v1 511 0 st
set_option maxHeartbeats 4000000 in
set_option maxRecDepth 100000 in
theorem wX11_readWord_s0 (C : Cx p s m args meth c cX11_readWord 8 wsL_law RX11 (some .int) D G ad) (n : Nat)   (v1 : Int32)   (st : St) (res : (Int32 × St))  (hf : fX11_readWord_s0 n   v1 st = some res) : At p l e (rmK 1) s m args below meth c D G ad (MQI D G ad below args s res) 8 st [(0, .ref (ad 130)), (1, .int v1)] 0 [] := by
  obtain ⟨hx, hb, hml, hown, hts, hr, hlk, hK, had, hSt⟩ := id C
  intro H locs ls hl hP hS
  unfold fX11_readWord_s0 at hf
  refine lv_sipush (v := 511) hx hb dX11_readWord_0 (by decide) ?_
  refine lv_istore_n (lv' := [(2, .int 511), (0, .ref (ad 130)), (1, .int v1)]) hx hb dX11_readWord_3 rfl hl (by decide) rfl (fun ls hl => ?_)
  refine lv_iconst (v := 0) hx hb dX11_readWord_4 (by decide) ?_
  refine lv_istore_n (lv' := [(3, .int 0), (2, .int 511), (0, .ref (ad 130)), (1, .int v1)]) hx hb dX11_readWord_5 rfl hl (by decide) rfl (fun ls hl => ?_)
  exact wX11_readWord_L6 C n res n v1 511 0 st hf H locs ls (lv_sub hl [2, 3, 1, 0] rfl) hP hS
def fX11_readWord (n : Nat)  (a1 : Int32) (st : St) : Option (Int32 × St) := fX11_readWord_s0 n a1 st
theorem okX11_readWord : okY yX11_readWord RX11 1 := by unfold okY; decide +kernel
end
set_option maxRecDepth 100000 in
theorem kX11_readWord (l : Launch) (D : va_G) (G : G3) (ad : Nat → Nat) (had : Adr ad) (n : Nat)   (a1 : Int32) (st : St) (res : (Int32 × St)) (hf : fX11_readWord n  a1 st = some res) {sz : Nat} : CtI l yX11_readWord (wsU yX11_readWord cX11_readWord 8 (some .int)) (rmK 1) D G ad sz [.ref (ad 130), .int a1] st res := by
  refine Met.ofW (cc := cX11_readWord) (maxL := 8) (ret := (some .int)) (by decide) rfl ?_
  intro p e s m args below meth c s₁ B hml hv
  obtain ⟨rfl, hsz, hP, hK, hSt⟩ := hv
  have hts := atoms_spec (ws := wsU yX11_readWord cX11_readWord 8 (some .int)) B.pre
  have C : Cx p s m _ meth c cX11_readWord 8 wsL_law RX11 (some .int) D G ad := ⟨B.exec, B.bytes, hml, findClass_of_methodNamed B.named, fun w h => hts w (List.mem_cons_of_mem _ h), B.returns, B.notSynchronized, hK, had, hSt⟩
  subst hsz
  have hl := lv_entry ([.ref (ad 130), .int a1]) (n := 8) (Nat.le_of_ble_eq_true rfl)
  rw [lg_entry_eq]
  generalize (lg_sl ([.ref (ad 130), .int a1]) ++ List.replicate (8 - (lg_sl ([.ref (ad 130), .int a1])).length) Slot.unset).toArray = ls at hl ⊢
  exact wX11_readWord_s0 C n  a1   st res hf s.heap [] ls (lv_sub hl [0, 1] rfl) hP va_S.rf
section
variable {p : Program} {l : Launch} {e : Env} {s : State} {m : MethodId} {args : Array Value} {below : List Frame} {meth : Method} {c : Code} {D : va_G} {G : G3} {ad : Nat → Nat}
def fX11_opensAt_s43 (n : Nat)   (v1 : Int32) (st : St) : Option (Int32 × St) := some (v1 + 1, st)
set_option maxHeartbeats 4000000 in
set_option maxRecDepth 100000 in
theorem wX11_opensAt_s43 (C : Cx p s m args meth c cX11_opensAt 3 wsL_law RX11 (some .int) D G ad) (n : Nat)   (v1 : Int32)   (st : St) (res : (Int32 × St))  (hf : fX11_opensAt_s43 n   v1 st = some res) : At p l e (rmK 0) s m args below meth c D G ad (MQI D G ad below args s res) 3 st [(1, .int v1)] 43 [] := by
  obtain ⟨hx, hb, hml, hown, hts, hr, hlk, hK, had, hSt⟩ := id C
  intro H locs ls hl hP hS
  unfold fX11_opensAt_s43 at hf
  refine lv_iload_n hx hb dX11_opensAt_43 rfl (lv_at hl 0 rfl) ?_
  refine lv_iconst (v := 1) hx hb dX11_opensAt_44 (by decide) ?_
  refine lv_iadd hx hb dX11_opensAt_45 ?_
  exact g_iret hx hb hr hlk hP hS dX11_opensAt_46 hf
def fX11_opensAt_s33 (n : Nat)   (v1 : Int32) (st : St) : Option (Int32 × St) := fX11_opensAt_s43 n v1 (setI st 130 35 ((st.1 130 35) + 1))
set_option maxHeartbeats 4000000 in
set_option maxRecDepth 100000 in
theorem wX11_opensAt_s33 (C : Cx p s m args meth c cX11_opensAt 3 wsL_law RX11 (some .int) D G ad) (n : Nat)   (v1 : Int32)   (st : St) (res : (Int32 × St))  (hf : fX11_opensAt_s33 n   v1 st = some res) : At p l e (rmK 0) s m args below meth c D G ad (MQI D G ad below args s res) 3 st [(0, .ref (ad 130)), (1, .int v1)] 33 [] := by
  obtain ⟨hx, hb, hml, hown, hts, hr, hlk, hK, had, hSt⟩ := id C
  intro H locs ls hl hP hS
  unfold fX11_opensAt_s33 at hf
  refine lv_aload_n hx hb dX11_opensAt_33 rfl (lv_at hl 0 rfl) ?_
  refine lv_dup hx hb dX11_opensAt_34 rfl ?_
  refine g_getI hx hb hts inlX11 hown hK hP 130 ct_130 rfl 35 (by decide) (hts _ wm_30_11) rfl dX11_opensAt_35 ?_
  refine lv_iconst (v := 1) hx hb dX11_opensAt_38 (by decide) ?_
  refine lv_iadd hx hb dX11_opensAt_39 ?_
  refine g_putI hx hb hts inlX11 tyX11_ok nmX11 hown hK had hP hS 130 ct_130 rfl 35 (by decide) (hts _ wm_30_11) rfl rfl rfl rfl rfl dX11_opensAt_40 (fun H locs hP hS => ?_)
  exact wX11_opensAt_s43 C n v1 (setI st 130 35 ((st.1 130 35) + 1)) res hf H locs ls (lv_sub hl [1] rfl) hP hS
def fX11_opensAt_s23 (n : Nat)   (v1 : Int32) (v2 : Int32) (st : St) : Option (Int32 × St) := if inb (st.1 130 35) 130 = true then (fX11_opensAt_s33 n v1 (setI st 157 (st.1 130 35).toNatClampNeg v2)) else none
set_option maxHeartbeats 4000000 in
set_option maxRecDepth 100000 in
theorem wX11_opensAt_s23 (C : Cx p s m args meth c cX11_opensAt 3 wsL_law RX11 (some .int) D G ad) (n : Nat)   (v1 : Int32) (v2 : Int32)   (st : St) (res : (Int32 × St))  (hf : fX11_opensAt_s23 n   v1 v2 st = some res) : At p l e (rmK 0) s m args below meth c D G ad (MQI D G ad below args s res) 3 st [(0, .ref (ad 130)), (1, .int v1), (2, .int v2)] 23 [] := by
  obtain ⟨hx, hb, hml, hown, hts, hr, hlk, hK, had, hSt⟩ := id C
  intro H locs ls hl hP hS
  unfold fX11_opensAt_s23 at hf
  refine lv_aload_n hx hb dX11_opensAt_23 rfl (lv_at hl 0 rfl) ?_
  refine g_getR hx hb hts inlX11 hown hK hP 130 ct_130 rfl 34 (by decide) (hts _ wm_8_4) rfl dX11_opensAt_24 ?_
  refine lv_aload_n hx hb dX11_opensAt_27 rfl (lv_at hl 0 rfl) ?_
  refine g_getI hx hb hts inlX11 hown hK hP 130 ct_130 rfl 35 (by decide) (hts _ wm_30_11) rfl dX11_opensAt_28 ?_
  refine lv_iload_n hx hb dX11_opensAt_31 rfl (lv_at hl 2 rfl) ?_
  obtain ⟨g1, hf⟩ := gd hf
  refine g_iast hx hb hK had hP hS 157 ct_157 g1 dX11_opensAt_32 (fun H locs hP hS => ?_)
  exact wX11_opensAt_s33 C n v1 (setI st 157 (st.1 130 35).toNatClampNeg v2) res hf H locs ls (lv_sub hl [0, 1] rfl) hP hS
def fX11_opensAt_s13 (n : Nat)   (v1 : Int32) (v2 : Int32) (st : St) : Option (Int32 × St) := fX11_opensAt_s23 n v1 v2 (setI st 130 36 ((st.1 130 36) + 1))
set_option maxHeartbeats 4000000 in
set_option maxRecDepth 100000 in
theorem wX11_opensAt_s13 (C : Cx p s m args meth c cX11_opensAt 3 wsL_law RX11 (some .int) D G ad) (n : Nat)   (v1 : Int32) (v2 : Int32)   (st : St) (res : (Int32 × St))  (hf : fX11_opensAt_s13 n   v1 v2 st = some res) : At p l e (rmK 0) s m args below meth c D G ad (MQI D G ad below args s res) 3 st [(0, .ref (ad 130)), (1, .int v1), (2, .int v2)] 13 [] := by
  obtain ⟨hx, hb, hml, hown, hts, hr, hlk, hK, had, hSt⟩ := id C
  intro H locs ls hl hP hS
  unfold fX11_opensAt_s13 at hf
  refine lv_aload_n hx hb dX11_opensAt_13 rfl (lv_at hl 0 rfl) ?_
  refine lv_dup hx hb dX11_opensAt_14 rfl ?_
  refine g_getI hx hb hts inlX11 hown hK hP 130 ct_130 rfl 36 (by decide) (hts _ wm_30_12) rfl dX11_opensAt_15 ?_
  refine lv_iconst (v := 1) hx hb dX11_opensAt_18 (by decide) ?_
  refine lv_iadd hx hb dX11_opensAt_19 ?_
  refine g_putI hx hb hts inlX11 tyX11_ok nmX11 hown hK had hP hS 130 ct_130 rfl 36 (by decide) (hts _ wm_30_12) rfl rfl rfl rfl rfl dX11_opensAt_20 (fun H locs hP hS => ?_)
  exact wX11_opensAt_s23 C n v1 v2 (setI st 130 36 ((st.1 130 36) + 1)) res hf H locs ls (lv_sub hl [0, 1, 2] rfl) hP hS
def fX11_opensAt_s9 (n : Nat)   (v1 : Int32) (st : St) : Option (Int32 × St) := some ((-1) - v1, st)
set_option maxHeartbeats 4000000 in
set_option maxRecDepth 100000 in
theorem wX11_opensAt_s9 (C : Cx p s m args meth c cX11_opensAt 3 wsL_law RX11 (some .int) D G ad) (n : Nat)   (v1 : Int32)   (st : St) (res : (Int32 × St))  (hf : fX11_opensAt_s9 n   v1 st = some res) : At p l e (rmK 0) s m args below meth c D G ad (MQI D G ad below args s res) 3 st [(1, .int v1)] 9 [] := by
  obtain ⟨hx, hb, hml, hown, hts, hr, hlk, hK, had, hSt⟩ := id C
  intro H locs ls hl hP hS
  unfold fX11_opensAt_s9 at hf
  refine lv_iconst (v := (-1)) hx hb dX11_opensAt_9 (by decide) ?_
  refine lv_iload_n hx hb dX11_opensAt_10 rfl (lv_at hl 0 rfl) ?_
  refine lv_isub hx hb dX11_opensAt_11 ?_
  exact g_iret hx hb hr hlk hP hS dX11_opensAt_12 hf
def fX11_opensAt_s0 (n : Nat)   (v1 : Int32) (v2 : Int32) (st : St) : Option (Int32 × St) := if (st.1 130 36) = 6 then fX11_opensAt_s9 n v1 st else fX11_opensAt_s13 n v1 v2 st
set_option maxHeartbeats 4000000 in
set_option maxRecDepth 100000 in
theorem wX11_opensAt_s0 (C : Cx p s m args meth c cX11_opensAt 3 wsL_law RX11 (some .int) D G ad) (n : Nat)   (v1 : Int32) (v2 : Int32)   (st : St) (res : (Int32 × St))  (hf : fX11_opensAt_s0 n   v1 v2 st = some res) : At p l e (rmK 0) s m args below meth c D G ad (MQI D G ad below args s res) 3 st [(0, .ref (ad 130)), (1, .int v1), (2, .int v2)] 0 [] := by
  obtain ⟨hx, hb, hml, hown, hts, hr, hlk, hK, had, hSt⟩ := id C
  intro H locs ls hl hP hS
  unfold fX11_opensAt_s0 at hf
  refine lv_aload_n hx hb dX11_opensAt_0 rfl (lv_at hl 0 rfl) ?_
  refine g_getI hx hb hts inlX11 hown hK hP 130 ct_130 rfl 36 (by decide) (hts _ wm_30_12) rfl dX11_opensAt_1 ?_
  refine lv_bipush (v := 6) hx hb dX11_opensAt_4 (by decide) ?_
  refine lv_icmp_ne (tgt := 13) hx hb dX11_opensAt_6 (by decide) (fun q => ?_) (fun q => ?_)
  · exact wX11_opensAt_s13 C n v1 v2 st res (ie hf q) H locs ls (lv_sub hl [0, 1, 2] rfl) hP hS
  · exact wX11_opensAt_s9 C n v1 st res (it hf q) H locs ls (lv_sub hl [1] rfl) hP hS
def fX11_opensAt (n : Nat)  (a1 : Int32) (a2 : Int32) (st : St) : Option (Int32 × St) := fX11_opensAt_s0 n a1 a2 st
theorem okX11_opensAt : okY yX11_opensAt RX11 2 := by unfold okY; decide +kernel
end
set_option maxRecDepth 100000 in
theorem kX11_opensAt (l : Launch) (D : va_G) (G : G3) (ad : Nat → Nat) (had : Adr ad) (n : Nat)   (a1 : Int32) (a2 : Int32) (st : St) (res : (Int32 × St)) (hf : fX11_opensAt n  a1 a2 st = some res) {sz : Nat} : CtI l yX11_opensAt (wsU yX11_opensAt cX11_opensAt 3 (some .int)) (rmK 0) D G ad sz [.ref (ad 130), .int a1, .int a2] st res := by
  refine Met.ofW (cc := cX11_opensAt) (maxL := 3) (ret := (some .int)) (by decide) rfl ?_
  intro p e s m args below meth c s₁ B hml hv
  obtain ⟨rfl, hsz, hP, hK, hSt⟩ := hv
  have hts := atoms_spec (ws := wsU yX11_opensAt cX11_opensAt 3 (some .int)) B.pre
  have C : Cx p s m _ meth c cX11_opensAt 3 wsL_law RX11 (some .int) D G ad := ⟨B.exec, B.bytes, hml, findClass_of_methodNamed B.named, fun w h => hts w (List.mem_cons_of_mem _ h), B.returns, B.notSynchronized, hK, had, hSt⟩
  subst hsz
  have hl := lv_entry ([.ref (ad 130), .int a1, .int a2]) (n := 3) (Nat.le_of_ble_eq_true rfl)
  rw [lg_entry_eq]
  generalize (lg_sl ([.ref (ad 130), .int a1, .int a2]) ++ List.replicate (3 - (lg_sl ([.ref (ad 130), .int a1, .int a2])).length) Slot.unset).toArray = ls at hl ⊢
  exact wX11_opensAt_s0 C n  a1 a2   st res hf s.heap [] ls (lv_sub hl [0, 1, 2] rfl) hP va_S.rf
section
variable {p : Program} {l : Launch} {e : Env} {s : State} {m : MethodId} {args : Array Value} {below : List Frame} {meth : Method} {c : Code} {D : va_G} {G : G3} {ad : Nat → Nat}
def fX11_operand_s167 (n : Nat)   (k0 : Int32) (st : St) : Option (Int32 × St) := some (k0, st)
set_option maxHeartbeats 4000000 in
set_option maxRecDepth 100000 in
theorem wX11_operand_s167 (C : Cx p s m args meth c cX11_operand 5 wsL_law RX11 (some .int) D G ad) (n : Nat)   (k0 : Int32)   (st : St) (res : (Int32 × St))  (hf : fX11_operand_s167 n   k0 st = some res) : At p l e (rmK 2) s m args below meth c D G ad (MQI D G ad below args s res) 5 st [] 167 [.int k0] := by
  obtain ⟨hx, hb, hml, hown, hts, hr, hlk, hK, had, hSt⟩ := id C
  intro H locs ls hl hP hS
  unfold fX11_operand_s167 at hf
  exact g_iret hx hb hr hlk hP hS dX11_operand_167 hf
def fX11_operand_s164 (n : Nat)   (v3 : Int32) (st : St) : Option (Int32 × St) := fX11_operand_s167 n ((-1) - v3) st
set_option maxHeartbeats 4000000 in
set_option maxRecDepth 100000 in
theorem wX11_operand_s164 (C : Cx p s m args meth c cX11_operand 5 wsL_law RX11 (some .int) D G ad) (n : Nat)   (v3 : Int32)   (st : St) (res : (Int32 × St))  (hf : fX11_operand_s164 n   v3 st = some res) : At p l e (rmK 2) s m args below meth c D G ad (MQI D G ad below args s res) 5 st [(3, .int v3)] 164 [] := by
  obtain ⟨hx, hb, hml, hown, hts, hr, hlk, hK, had, hSt⟩ := id C
  intro H locs ls hl hP hS
  unfold fX11_operand_s164 at hf
  refine lv_iconst (v := (-1)) hx hb dX11_operand_164 (by decide) ?_
  refine lv_iload_n hx hb dX11_operand_165 rfl (lv_at hl 0 rfl) ?_
  refine lv_isub hx hb dX11_operand_166 ?_
  exact wX11_operand_s167 C n ((-1) - v3) st res hf H locs ls (lv_sub hl [] rfl) hP hS
def fX11_operand_s161 (n : Nat)   (k0 : Int32) (st : St) : Option (Int32 × St) := fX11_operand_s167 n k0 st
set_option maxHeartbeats 4000000 in
set_option maxRecDepth 100000 in
theorem wX11_operand_s161 (C : Cx p s m args meth c cX11_operand 5 wsL_law RX11 (some .int) D G ad) (n : Nat)   (k0 : Int32)   (st : St) (res : (Int32 × St))  (hf : fX11_operand_s161 n   k0 st = some res) : At p l e (rmK 2) s m args below meth c D G ad (MQI D G ad below args s res) 5 st [] 161 [.int k0] := by
  obtain ⟨hx, hb, hml, hown, hts, hr, hlk, hK, had, hSt⟩ := id C
  intro H locs ls hl hP hS
  unfold fX11_operand_s161 at hf
  refine lv_goto (tgt := 167) hx hb dX11_operand_161 (by decide) ?_
  exact wX11_operand_s167 C n k0 st res hf H locs ls (lv_sub hl [] rfl) hP hS
def fX11_operand_s158 (n : Nat)   (k1 : Int32) (k2 : Int32) (st : St) : Option (Int32 × St) := (fX11_opensAt n k1 k2 st).bind (fun q => fX11_operand_s161 n q.1 q.2)
set_option maxHeartbeats 4000000 in
set_option maxRecDepth 100000 in
theorem wX11_operand_s158 (C : Cx p s m args meth c cX11_operand 5 wsL_law RX11 (some .int) D G ad) (n : Nat)   (k1 : Int32) (k2 : Int32)   (st : St) (res : (Int32 × St))  (hf : fX11_operand_s158 n   k1 k2 st = some res) : At p l e (rmK 2) s m args below meth c D G ad (MQI D G ad below args s res) 5 st [] 158 [.int k2, .int k1, .ref (ad 130)] := by
  obtain ⟨hx, hb, hml, hown, hts, hr, hlk, hK, had, hSt⟩ := id C
  intro H locs ls hl hP hS
  unfold fX11_operand_s158 at hf
  obtain ⟨q, hq, hf⟩ := bd hf
  refine gcV_i (k := 0) (o := 130) (As := [.int k1, .int k2]) (rest := []) hx hb hml hown hts hK hSt hP hS hl.1 (goodV wm_31_4 wm_31_5 wm_31_6 wm_1_5 wm_31_7) okX11_opensAt ct_130 rfl rfl (Nat.le_of_ble_eq_true rfl) (Nat.le_of_ble_eq_true rfl) rfl rfl (Nat.le_of_ble_eq_true rfl) dX11_operand_158 (kX11_opensAt l D G ad had n  k1 k2 st q hq) (fun H locs hP hS => ?_)
  exact wX11_operand_s161 C n q.1 q.2 res hf H locs ls (lv_sub hl [] rfl) hP hS
def fX11_operand_s156 (n : Nat)   (k1 : Int32) (st : St) : Option (Int32 × St) := fX11_operand_s158 n k1 120 st
set_option maxHeartbeats 4000000 in
set_option maxRecDepth 100000 in
theorem wX11_operand_s156 (C : Cx p s m args meth c cX11_operand 5 wsL_law RX11 (some .int) D G ad) (n : Nat)   (k1 : Int32)   (st : St) (res : (Int32 × St))  (hf : fX11_operand_s156 n   k1 st = some res) : At p l e (rmK 2) s m args below meth c D G ad (MQI D G ad below args s res) 5 st [] 156 [.int k1, .ref (ad 130)] := by
  obtain ⟨hx, hb, hml, hown, hts, hr, hlk, hK, had, hSt⟩ := id C
  intro H locs ls hl hP hS
  unfold fX11_operand_s156 at hf
  refine lv_bipush (v := 120) hx hb dX11_operand_156 (by decide) ?_
  exact wX11_operand_s158 C n k1 120 st res hf H locs ls (lv_sub hl [] rfl) hP hS
def fX11_operand_s151 (n : Nat)   (k1 : Int32) (st : St) : Option (Int32 × St) := fX11_operand_s158 n k1 109 st
set_option maxHeartbeats 4000000 in
set_option maxRecDepth 100000 in
theorem wX11_operand_s151 (C : Cx p s m args meth c cX11_operand 5 wsL_law RX11 (some .int) D G ad) (n : Nat)   (k1 : Int32)   (st : St) (res : (Int32 × St))  (hf : fX11_operand_s151 n   k1 st = some res) : At p l e (rmK 2) s m args below meth c D G ad (MQI D G ad below args s res) 5 st [] 151 [.int k1, .ref (ad 130)] := by
  obtain ⟨hx, hb, hml, hown, hts, hr, hlk, hK, had, hSt⟩ := id C
  intro H locs ls hl hP hS
  unfold fX11_operand_s151 at hf
  refine lv_bipush (v := 109) hx hb dX11_operand_151 (by decide) ?_
  refine lv_goto (tgt := 158) hx hb dX11_operand_153 (by decide) ?_
  exact wX11_operand_s158 C n k1 109 st res hf H locs ls (lv_sub hl [] rfl) hP hS
def fX11_operand_s140 (n : Nat)   (v3 : Int32) (st : St) : Option (Int32 × St) := if (st.1 130 38) = 7 then fX11_operand_s151 n v3 st else fX11_operand_s156 n v3 st
set_option maxHeartbeats 4000000 in
set_option maxRecDepth 100000 in
theorem wX11_operand_s140 (C : Cx p s m args meth c cX11_operand 5 wsL_law RX11 (some .int) D G ad) (n : Nat)   (v3 : Int32)   (st : St) (res : (Int32 × St))  (hf : fX11_operand_s140 n   v3 st = some res) : At p l e (rmK 2) s m args below meth c D G ad (MQI D G ad below args s res) 5 st [(0, .ref (ad 130)), (3, .int v3)] 140 [] := by
  obtain ⟨hx, hb, hml, hown, hts, hr, hlk, hK, had, hSt⟩ := id C
  intro H locs ls hl hP hS
  unfold fX11_operand_s140 at hf
  refine lv_aload_n hx hb dX11_operand_140 rfl (lv_at hl 0 rfl) ?_
  refine lv_iload_n hx hb dX11_operand_141 rfl (lv_at hl 1 rfl) ?_
  refine lv_aload_n hx hb dX11_operand_142 rfl (lv_at hl 0 rfl) ?_
  refine g_getI hx hb hts inlX11 hown hK hP 130 ct_130 rfl 38 (by decide) (hts _ wm_30_19) rfl dX11_operand_143 ?_
  refine lv_bipush (v := 7) hx hb dX11_operand_146 (by decide) ?_
  refine lv_icmp_ne (tgt := 156) hx hb dX11_operand_148 (by decide) (fun q => ?_) (fun q => ?_)
  · exact wX11_operand_s156 C n v3 st res (ie hf q) H locs ls (lv_sub hl [] rfl) hP hS
  · exact wX11_operand_s151 C n v3 st res (it hf q) H locs ls (lv_sub hl [] rfl) hP hS
def fX11_operand_s135 (n : Nat)   (v3 : Int32) (k0 : Int32) (st : St) : Option (Int32 × St) := if k0 = 40 then fX11_operand_s140 n v3 st else fX11_operand_s164 n v3 st
set_option maxHeartbeats 4000000 in
set_option maxRecDepth 100000 in
theorem wX11_operand_s135 (C : Cx p s m args meth c cX11_operand 5 wsL_law RX11 (some .int) D G ad) (n : Nat)   (v3 : Int32) (k0 : Int32)   (st : St) (res : (Int32 × St))  (hf : fX11_operand_s135 n   v3 k0 st = some res) : At p l e (rmK 2) s m args below meth c D G ad (MQI D G ad below args s res) 5 st [(0, .ref (ad 130)), (3, .int v3)] 135 [.int k0] := by
  obtain ⟨hx, hb, hml, hown, hts, hr, hlk, hK, had, hSt⟩ := id C
  intro H locs ls hl hP hS
  unfold fX11_operand_s135 at hf
  refine lv_bipush (v := 40) hx hb dX11_operand_135 (by decide) ?_
  refine lv_icmp_ne (tgt := 164) hx hb dX11_operand_137 (by decide) (fun q => ?_) (fun q => ?_)
  · exact wX11_operand_s164 C n v3 st res (ie hf q) H locs ls (lv_sub hl [1] rfl) hP hS
  · exact wX11_operand_s140 C n v3 st res (it hf q) H locs ls (lv_sub hl [0, 1] rfl) hP hS
def fX11_operand_s130 (n : Nat)   (v3 : Int32) (st : St) : Option (Int32 × St) := (fX11_byteAt n v3 st).bind (fun q => fX11_operand_s135 n v3 q.1 q.2)
set_option maxHeartbeats 4000000 in
set_option maxRecDepth 100000 in
theorem wX11_operand_s130 (C : Cx p s m args meth c cX11_operand 5 wsL_law RX11 (some .int) D G ad) (n : Nat)   (v3 : Int32)   (st : St) (res : (Int32 × St))  (hf : fX11_operand_s130 n   v3 st = some res) : At p l e (rmK 2) s m args below meth c D G ad (MQI D G ad below args s res) 5 st [(0, .ref (ad 130)), (3, .int v3)] 130 [] := by
  obtain ⟨hx, hb, hml, hown, hts, hr, hlk, hK, had, hSt⟩ := id C
  intro H locs ls hl hP hS
  unfold fX11_operand_s130 at hf
  refine lv_aload_n hx hb dX11_operand_130 rfl (lv_at hl 0 rfl) ?_
  refine lv_iload_n hx hb dX11_operand_131 rfl (lv_at hl 1 rfl) ?_
  obtain ⟨q, hq, hf⟩ := bd hf
  refine gcV_i (k := 0) (o := 130) (As := [.int v3]) (rest := []) hx hb hml hown hts hK hSt hP hS hl.1 (goodV wm_30_20 wm_30_21 wm_30_22 wm_1_5 wm_30_23) okX11_byteAt ct_130 rfl rfl (Nat.le_of_ble_eq_true rfl) (Nat.le_of_ble_eq_true rfl) rfl rfl (Nat.le_of_ble_eq_true rfl) dX11_operand_132 (kX11_byteAt l D G ad had n  v3 st q hq) (fun H locs hP hS => ?_)
  exact wX11_operand_s135 C n v3 q.1 q.2 res hf H locs ls (lv_sub hl [0, 1] rfl) hP hS
def fX11_operand_s128 (n : Nat)   (v3 : Int32) (st : St) : Option (Int32 × St) := some (v3, st)
set_option maxHeartbeats 4000000 in
set_option maxRecDepth 100000 in
theorem wX11_operand_s128 (C : Cx p s m args meth c cX11_operand 5 wsL_law RX11 (some .int) D G ad) (n : Nat)   (v3 : Int32)   (st : St) (res : (Int32 × St))  (hf : fX11_operand_s128 n   v3 st = some res) : At p l e (rmK 2) s m args below meth c D G ad (MQI D G ad below args s res) 5 st [(3, .int v3)] 128 [] := by
  obtain ⟨hx, hb, hml, hown, hts, hr, hlk, hK, had, hSt⟩ := id C
  intro H locs ls hl hP hS
  unfold fX11_operand_s128 at hf
  refine lv_iload_n hx hb dX11_operand_128 rfl (lv_at hl 0 rfl) ?_
  exact g_iret hx hb hr hlk hP hS dX11_operand_129 hf
def fX11_operand_s116 (n : Nat)   (v3 : Int32) (st : St) : Option (Int32 × St) := (fX11_puts n (10000 + (st.1 130 38)) st).bind (fun q => fX11_operand_s128 n v3 q.2)
set_option maxHeartbeats 4000000 in
set_option maxRecDepth 100000 in
theorem wX11_operand_s116 (C : Cx p s m args meth c cX11_operand 5 wsL_law RX11 (some .int) D G ad) (n : Nat)   (v3 : Int32)   (st : St) (res : (Int32 × St))  (hf : fX11_operand_s116 n   v3 st = some res) : At p l e (rmK 2) s m args below meth c D G ad (MQI D G ad below args s res) 5 st [(0, .ref (ad 130)), (3, .int v3)] 116 [] := by
  obtain ⟨hx, hb, hml, hown, hts, hr, hlk, hK, had, hSt⟩ := id C
  intro H locs ls hl hP hS
  unfold fX11_operand_s116 at hf
  refine lv_aload_n hx hb dX11_operand_116 rfl (lv_at hl 0 rfl) ?_
  refine lv_sipush (v := 10000) hx hb dX11_operand_117 (by decide) ?_
  refine lv_aload_n hx hb dX11_operand_120 rfl (lv_at hl 0 rfl) ?_
  refine g_getI hx hb hts inlX11 hown hK hP 130 ct_130 rfl 38 (by decide) (hts _ wm_30_19) rfl dX11_operand_121 ?_
  refine lv_iadd hx hb dX11_operand_124 ?_
  obtain ⟨q, hq, hf⟩ := bd hf
  refine gcV_v (k := 0) (o := 130) (As := [.int (10000 + (st.1 130 38))]) (rest := []) hx hb hml hown hts hK hSt hP hS hl.1 (goodV wm_31_0 wm_31_1 wm_31_2 wm_1_5 wm_31_3) okX11_puts ct_130 rfl rfl (Nat.le_of_ble_eq_true rfl) (Nat.le_of_ble_eq_true rfl) rfl rfl (Nat.le_of_ble_eq_true rfl) dX11_operand_125 (kX11_puts l D G ad had n  (10000 + (st.1 130 38)) st q hq) (fun H locs hP hS => ?_)
  exact wX11_operand_s128 C n v3 q.2 res hf H locs ls (lv_sub hl [1] rfl) hP hS
def fX11_operand_s107 (n : Nat)   (v3 : Int32) (st : St) : Option (Int32 × St) := if 7 ≤ (st.1 130 38) then fX11_operand_s130 n v3 st else fX11_operand_s116 n v3 st
set_option maxHeartbeats 4000000 in
set_option maxRecDepth 100000 in
theorem wX11_operand_s107 (C : Cx p s m args meth c cX11_operand 5 wsL_law RX11 (some .int) D G ad) (n : Nat)   (v3 : Int32)   (st : St) (res : (Int32 × St))  (hf : fX11_operand_s107 n   v3 st = some res) : At p l e (rmK 2) s m args below meth c D G ad (MQI D G ad below args s res) 5 st [(0, .ref (ad 130)), (3, .int v3)] 107 [] := by
  obtain ⟨hx, hb, hml, hown, hts, hr, hlk, hK, had, hSt⟩ := id C
  intro H locs ls hl hP hS
  unfold fX11_operand_s107 at hf
  refine lv_aload_n hx hb dX11_operand_107 rfl (lv_at hl 0 rfl) ?_
  refine g_getI hx hb hts inlX11 hown hK hP 130 ct_130 rfl 38 (by decide) (hts _ wm_30_19) rfl dX11_operand_108 ?_
  refine lv_bipush (v := 7) hx hb dX11_operand_111 (by decide) ?_
  refine lv_icmp_ge (tgt := 130) hx hb dX11_operand_113 (by decide) (fun q => ?_) (fun q => ?_)
  · exact wX11_operand_s130 C n v3 st res (it hf q) H locs ls (lv_sub hl [0, 1] rfl) hP hS
  · exact wX11_operand_s116 C n v3 st res (ie hf q) H locs ls (lv_sub hl [0, 1] rfl) hP hS
def fX11_operand_s105 (n : Nat)   (v3 : Int32) (st : St) : Option (Int32 × St) := some (v3, st)
set_option maxHeartbeats 4000000 in
set_option maxRecDepth 100000 in
theorem wX11_operand_s105 (C : Cx p s m args meth c cX11_operand 5 wsL_law RX11 (some .int) D G ad) (n : Nat)   (v3 : Int32)   (st : St) (res : (Int32 × St))  (hf : fX11_operand_s105 n   v3 st = some res) : At p l e (rmK 2) s m args below meth c D G ad (MQI D G ad below args s res) 5 st [(3, .int v3)] 105 [] := by
  obtain ⟨hx, hb, hml, hown, hts, hr, hlk, hK, had, hSt⟩ := id C
  intro H locs ls hl hP hS
  unfold fX11_operand_s105 at hf
  refine lv_iload_n hx hb dX11_operand_105 rfl (lv_at hl 0 rfl) ?_
  exact g_iret hx hb hr hlk hP hS dX11_operand_106 hf
def fX11_operand_s100 (n : Nat)   (k0 : Int32) (st : St) : Option (Int32 × St) := if 0 ≤ k0 then fX11_operand_s107 n k0 st else fX11_operand_s105 n k0 st
set_option maxHeartbeats 4000000 in
set_option maxRecDepth 100000 in
theorem wX11_operand_s100 (C : Cx p s m args meth c cX11_operand 5 wsL_law RX11 (some .int) D G ad) (n : Nat)   (k0 : Int32)   (st : St) (res : (Int32 × St))  (hf : fX11_operand_s100 n   k0 st = some res) : At p l e (rmK 2) s m args below meth c D G ad (MQI D G ad below args s res) 5 st [(0, .ref (ad 130))] 100 [.int k0] := by
  obtain ⟨hx, hb, hml, hown, hts, hr, hlk, hK, had, hSt⟩ := id C
  intro H locs ls hl hP hS
  unfold fX11_operand_s100 at hf
  refine lv_istore_n (lv' := [(3, .int k0), (0, .ref (ad 130))]) hx hb dX11_operand_100 rfl hl (by decide) rfl (fun ls hl => ?_)
  refine lv_iload_n hx hb dX11_operand_101 rfl (lv_at hl 0 rfl) ?_
  refine lv_if_ge (tgt := 107) hx hb dX11_operand_102 (by decide) (fun q => ?_) (fun q => ?_)
  · exact wX11_operand_s107 C n k0 st res (it hf q) H locs ls (lv_sub hl [1, 0] rfl) hP hS
  · exact wX11_operand_s105 C n k0 st res (ie hf q) H locs ls (lv_sub hl [0] rfl) hP hS
def fX11_operand_s95 (n : Nat)   (v1 : Int32) (st : St) : Option (Int32 × St) := (fX11_readWord n v1 st).bind (fun q => fX11_operand_s100 n q.1 q.2)
set_option maxHeartbeats 4000000 in
set_option maxRecDepth 100000 in
theorem wX11_operand_s95 (C : Cx p s m args meth c cX11_operand 5 wsL_law RX11 (some .int) D G ad) (n : Nat)   (v1 : Int32)   (st : St) (res : (Int32 × St))  (hf : fX11_operand_s95 n   v1 st = some res) : At p l e (rmK 2) s m args below meth c D G ad (MQI D G ad below args s res) 5 st [(0, .ref (ad 130)), (1, .int v1)] 95 [] := by
  obtain ⟨hx, hb, hml, hown, hts, hr, hlk, hK, had, hSt⟩ := id C
  intro H locs ls hl hP hS
  unfold fX11_operand_s95 at hf
  refine lv_aload_n hx hb dX11_operand_95 rfl (lv_at hl 0 rfl) ?_
  refine lv_iload_n hx hb dX11_operand_96 rfl (lv_at hl 1 rfl) ?_
  obtain ⟨q, hq, hf⟩ := bd hf
  refine gcV_i (k := 1) (o := 130) (As := [.int v1]) (rest := []) hx hb hml hown hts hK hSt hP hS hl.1 (goodV wm_31_8 wm_31_9 wm_31_10 wm_1_5 wm_31_11) okX11_readWord ct_130 rfl rfl (Nat.le_of_ble_eq_true rfl) (Nat.le_of_ble_eq_true rfl) rfl rfl (Nat.le_of_ble_eq_true rfl) dX11_operand_97 (kX11_readWord l D G ad had n  v1 st q hq) (fun H locs hP hS => ?_)
  exact wX11_operand_s100 C n q.1 q.2 res hf H locs ls (lv_sub hl [0] rfl) hP hS
def fX11_operand_s94 (n : Nat)   (k0 : Int32) (st : St) : Option (Int32 × St) := some (k0, st)
set_option maxHeartbeats 4000000 in
set_option maxRecDepth 100000 in
theorem wX11_operand_s94 (C : Cx p s m args meth c cX11_operand 5 wsL_law RX11 (some .int) D G ad) (n : Nat)   (k0 : Int32)   (st : St) (res : (Int32 × St))  (hf : fX11_operand_s94 n   k0 st = some res) : At p l e (rmK 2) s m args below meth c D G ad (MQI D G ad below args s res) 5 st [] 94 [.int k0] := by
  obtain ⟨hx, hb, hml, hown, hts, hr, hlk, hK, had, hSt⟩ := id C
  intro H locs ls hl hP hS
  unfold fX11_operand_s94 at hf
  exact g_iret hx hb hr hlk hP hS dX11_operand_94 hf
def fX11_operand_s87 (n : Nat)   (v1 : Int32) (st : St) : Option (Int32 × St) := (fX11_opensAt n v1 40 st).bind (fun q => fX11_operand_s94 n q.1 q.2)
set_option maxHeartbeats 4000000 in
set_option maxRecDepth 100000 in
theorem wX11_operand_s87 (C : Cx p s m args meth c cX11_operand 5 wsL_law RX11 (some .int) D G ad) (n : Nat)   (v1 : Int32)   (st : St) (res : (Int32 × St))  (hf : fX11_operand_s87 n   v1 st = some res) : At p l e (rmK 2) s m args below meth c D G ad (MQI D G ad below args s res) 5 st [(0, .ref (ad 130)), (1, .int v1)] 87 [] := by
  obtain ⟨hx, hb, hml, hown, hts, hr, hlk, hK, had, hSt⟩ := id C
  intro H locs ls hl hP hS
  unfold fX11_operand_s87 at hf
  refine lv_aload_n hx hb dX11_operand_87 rfl (lv_at hl 0 rfl) ?_
  refine lv_iload_n hx hb dX11_operand_88 rfl (lv_at hl 1 rfl) ?_
  refine lv_bipush (v := 40) hx hb dX11_operand_89 (by decide) ?_
  obtain ⟨q, hq, hf⟩ := bd hf
  refine gcV_i (k := 0) (o := 130) (As := [.int v1, .int 40]) (rest := []) hx hb hml hown hts hK hSt hP hS hl.1 (goodV wm_31_4 wm_31_5 wm_31_6 wm_1_5 wm_31_7) okX11_opensAt ct_130 rfl rfl (Nat.le_of_ble_eq_true rfl) (Nat.le_of_ble_eq_true rfl) rfl rfl (Nat.le_of_ble_eq_true rfl) dX11_operand_91 (kX11_opensAt l D G ad had n  v1 40 st q hq) (fun H locs hP hS => ?_)
  exact wX11_operand_s94 C n q.1 q.2 res hf H locs ls (lv_sub hl [] rfl) hP hS
def fX11_operand_s81 (n : Nat)   (v1 : Int32) (v2 : Int32) (st : St) : Option (Int32 × St) := if v2 = 40 then fX11_operand_s87 n v1 st else fX11_operand_s95 n v1 st
set_option maxHeartbeats 4000000 in
set_option maxRecDepth 100000 in
theorem wX11_operand_s81 (C : Cx p s m args meth c cX11_operand 5 wsL_law RX11 (some .int) D G ad) (n : Nat)   (v1 : Int32) (v2 : Int32)   (st : St) (res : (Int32 × St))  (hf : fX11_operand_s81 n   v1 v2 st = some res) : At p l e (rmK 2) s m args below meth c D G ad (MQI D G ad below args s res) 5 st [(0, .ref (ad 130)), (1, .int v1), (2, .int v2)] 81 [] := by
  obtain ⟨hx, hb, hml, hown, hts, hr, hlk, hK, had, hSt⟩ := id C
  intro H locs ls hl hP hS
  unfold fX11_operand_s81 at hf
  refine lv_iload_n hx hb dX11_operand_81 rfl (lv_at hl 2 rfl) ?_
  refine lv_bipush (v := 40) hx hb dX11_operand_82 (by decide) ?_
  refine lv_icmp_ne (tgt := 95) hx hb dX11_operand_84 (by decide) (fun q => ?_) (fun q => ?_)
  · exact wX11_operand_s95 C n v1 st res (ie hf q) H locs ls (lv_sub hl [0, 1] rfl) hP hS
  · exact wX11_operand_s87 C n v1 st res (it hf q) H locs ls (lv_sub hl [0, 1] rfl) hP hS
def fX11_operand_s78 (n : Nat)   (v4 : Int32) (st : St) : Option (Int32 × St) := some (v4, st)
set_option maxHeartbeats 4000000 in
set_option maxRecDepth 100000 in
theorem wX11_operand_s78 (C : Cx p s m args meth c cX11_operand 5 wsL_law RX11 (some .int) D G ad) (n : Nat)   (v4 : Int32)   (st : St) (res : (Int32 × St))  (hf : fX11_operand_s78 n   v4 st = some res) : At p l e (rmK 2) s m args below meth c D G ad (MQI D G ad below args s res) 5 st [(4, .int v4)] 78 [] := by
  obtain ⟨hx, hb, hml, hown, hts, hr, hlk, hK, had, hSt⟩ := id C
  intro H locs ls hl hP hS
  unfold fX11_operand_s78 at hf
  refine lv_iload hx hb dX11_operand_78 (lv_at hl 0 rfl) ?_
  exact g_iret hx hb hr hlk hP hS dX11_operand_80 hf
def fX11_operand_s73 (n : Nat)   (v3 : Int32) (v4 : Int32) (st : St) : Option (Int32 × St) := (fX11_puts n v3 st).bind (fun q => fX11_operand_s78 n v4 q.2)
set_option maxHeartbeats 4000000 in
set_option maxRecDepth 100000 in
theorem wX11_operand_s73 (C : Cx p s m args meth c cX11_operand 5 wsL_law RX11 (some .int) D G ad) (n : Nat)   (v3 : Int32) (v4 : Int32)   (st : St) (res : (Int32 × St))  (hf : fX11_operand_s73 n   v3 v4 st = some res) : At p l e (rmK 2) s m args below meth c D G ad (MQI D G ad below args s res) 5 st [(0, .ref (ad 130)), (3, .int v3), (4, .int v4)] 73 [] := by
  obtain ⟨hx, hb, hml, hown, hts, hr, hlk, hK, had, hSt⟩ := id C
  intro H locs ls hl hP hS
  unfold fX11_operand_s73 at hf
  refine lv_aload_n hx hb dX11_operand_73 rfl (lv_at hl 0 rfl) ?_
  refine lv_iload_n hx hb dX11_operand_74 rfl (lv_at hl 1 rfl) ?_
  obtain ⟨q, hq, hf⟩ := bd hf
  refine gcV_v (k := 0) (o := 130) (As := [.int v3]) (rest := []) hx hb hml hown hts hK hSt hP hS hl.1 (goodV wm_31_0 wm_31_1 wm_31_2 wm_1_5 wm_31_3) okX11_puts ct_130 rfl rfl (Nat.le_of_ble_eq_true rfl) (Nat.le_of_ble_eq_true rfl) rfl rfl (Nat.le_of_ble_eq_true rfl) dX11_operand_75 (kX11_puts l D G ad had n  v3 st q hq) (fun H locs hP hS => ?_)
  exact wX11_operand_s78 C n v4 q.2 res hf H locs ls (lv_sub hl [2] rfl) hP hS
def fX11_operand_s62 (n : Nat) (K25 : Int32 → Int32 → Int32 → St → Option (Int32 × St))  (v1 : Int32) (v4 : Int32) (k0 : Int32) (k1 : Int32) (st : St) : Option (Int32 × St) := K25 v1 ((k0 + k1) - 48) (v4 + 1) st
set_option maxHeartbeats 4000000 in
set_option maxRecDepth 100000 in
theorem wX11_operand_s62 (C : Cx p s m args meth c cX11_operand 5 wsL_law RX11 (some .int) D G ad) (n : Nat) (K25 : Int32 → Int32 → Int32 → St → Option (Int32 × St))  (v1 : Int32) (v4 : Int32) (k0 : Int32) (k1 : Int32)   (st : St) (res : (Int32 × St)) (hK25 : ∀ (v1 : Int32) (v3 : Int32) (v4 : Int32) (st : St), K25 v1 v3 v4 st = some res → At p l e (rmK 2) s m args below meth c D G ad (MQI D G ad below args s res) 5 st [(0, .ref (ad 130)), (1, .int v1), (3, .int v3), (4, .int v4)] 25 []) (hf : fX11_operand_s62 n K25  v1 v4 k0 k1 st = some res) : At p l e (rmK 2) s m args below meth c D G ad (MQI D G ad below args s res) 5 st [(0, .ref (ad 130)), (1, .int v1), (4, .int v4)] 62 [.int k1, .int k0] := by
  obtain ⟨hx, hb, hml, hown, hts, hr, hlk, hK, had, hSt⟩ := id C
  intro H locs ls hl hP hS
  unfold fX11_operand_s62 at hf
  refine lv_iadd hx hb dX11_operand_62 ?_
  refine lv_bipush (v := 48) hx hb dX11_operand_63 (by decide) ?_
  refine lv_isub hx hb dX11_operand_65 ?_
  refine lv_istore_n (lv' := [(3, .int ((k0 + k1) - 48)), (0, .ref (ad 130)), (1, .int v1), (4, .int v4)]) hx hb dX11_operand_66 rfl hl (by decide) rfl (fun ls hl => ?_)
  refine lv_iinc (v := v4 + 1) (lv' := [(4, .int (v4 + 1)), (3, .int ((k0 + k1) - 48)), (0, .ref (ad 130)), (1, .int v1)]) hx hb dX11_operand_67 hl (k := 3) rfl rfl (by decide) rfl (fun ls hl => ?_)
  refine lv_goto (tgt := 25) hx hb dX11_operand_70 (by decide) ?_
  exact hK25 v1 ((k0 + k1) - 48) (v4 + 1)  st hf H locs ls (lv_sub hl [2, 3, 1, 0] rfl) hP hS
def fX11_operand_s52 (n : Nat) (K25 : Int32 → Int32 → Int32 → St → Option (Int32 × St))  (v1 : Int32) (v3 : Int32) (v4 : Int32) (st : St) : Option (Int32 × St) := (fX11_byteAt n v4 st).bind (fun q => fX11_operand_s62 n K25 v1 v4 (10 * v3) q.1 q.2)
set_option maxHeartbeats 4000000 in
set_option maxRecDepth 100000 in
theorem wX11_operand_s52 (C : Cx p s m args meth c cX11_operand 5 wsL_law RX11 (some .int) D G ad) (n : Nat) (K25 : Int32 → Int32 → Int32 → St → Option (Int32 × St))  (v1 : Int32) (v3 : Int32) (v4 : Int32)   (st : St) (res : (Int32 × St)) (hK25 : ∀ (v1 : Int32) (v3 : Int32) (v4 : Int32) (st : St), K25 v1 v3 v4 st = some res → At p l e (rmK 2) s m args below meth c D G ad (MQI D G ad below args s res) 5 st [(0, .ref (ad 130)), (1, .int v1), (3, .int v3), (4, .int v4)] 25 []) (hf : fX11_operand_s52 n K25  v1 v3 v4 st = some res) : At p l e (rmK 2) s m args below meth c D G ad (MQI D G ad below args s res) 5 st [(0, .ref (ad 130)), (1, .int v1), (3, .int v3), (4, .int v4)] 52 [] := by
  obtain ⟨hx, hb, hml, hown, hts, hr, hlk, hK, had, hSt⟩ := id C
  intro H locs ls hl hP hS
  unfold fX11_operand_s52 at hf
  refine lv_bipush (v := 10) hx hb dX11_operand_52 (by decide) ?_
  refine lv_iload_n hx hb dX11_operand_54 rfl (lv_at hl 2 rfl) ?_
  refine lv_imul hx hb dX11_operand_55 ?_
  refine lv_aload_n hx hb dX11_operand_56 rfl (lv_at hl 0 rfl) ?_
  refine lv_iload hx hb dX11_operand_57 (lv_at hl 3 rfl) ?_
  obtain ⟨q, hq, hf⟩ := bd hf
  refine gcV_i (k := 0) (o := 130) (As := [.int v4]) (rest := [.int (10 * v3)]) hx hb hml hown hts hK hSt hP hS hl.1 (goodV wm_30_20 wm_30_21 wm_30_22 wm_1_5 wm_30_23) okX11_byteAt ct_130 rfl rfl (Nat.le_of_ble_eq_true rfl) (Nat.le_of_ble_eq_true rfl) rfl rfl (Nat.le_of_ble_eq_true rfl) dX11_operand_59 (kX11_byteAt l D G ad had n  v4 st q hq) (fun H locs hP hS => ?_)
  exact wX11_operand_s62 C n K25 v1 v4 (10 * v3) q.1 q.2 res hK25 hf H locs ls (lv_sub hl [0, 1, 3] rfl) hP hS
def fX11_operand_s44 (n : Nat) (K25 : Int32 → Int32 → Int32 → St → Option (Int32 × St))  (v1 : Int32) (v3 : Int32) (v4 : Int32) (st : St) : Option (Int32 × St) := if (v1 + 4) ≤ v4 then fX11_operand_s73 n v3 v4 st else fX11_operand_s52 n K25 v1 v3 v4 st
set_option maxHeartbeats 4000000 in
set_option maxRecDepth 100000 in
theorem wX11_operand_s44 (C : Cx p s m args meth c cX11_operand 5 wsL_law RX11 (some .int) D G ad) (n : Nat) (K25 : Int32 → Int32 → Int32 → St → Option (Int32 × St))  (v1 : Int32) (v3 : Int32) (v4 : Int32)   (st : St) (res : (Int32 × St)) (hK25 : ∀ (v1 : Int32) (v3 : Int32) (v4 : Int32) (st : St), K25 v1 v3 v4 st = some res → At p l e (rmK 2) s m args below meth c D G ad (MQI D G ad below args s res) 5 st [(0, .ref (ad 130)), (1, .int v1), (3, .int v3), (4, .int v4)] 25 []) (hf : fX11_operand_s44 n K25  v1 v3 v4 st = some res) : At p l e (rmK 2) s m args below meth c D G ad (MQI D G ad below args s res) 5 st [(0, .ref (ad 130)), (1, .int v1), (3, .int v3), (4, .int v4)] 44 [] := by
  obtain ⟨hx, hb, hml, hown, hts, hr, hlk, hK, had, hSt⟩ := id C
  intro H locs ls hl hP hS
  unfold fX11_operand_s44 at hf
  refine lv_iload hx hb dX11_operand_44 (lv_at hl 3 rfl) ?_
  refine lv_iload_n hx hb dX11_operand_46 rfl (lv_at hl 1 rfl) ?_
  refine lv_iconst (v := 4) hx hb dX11_operand_47 (by decide) ?_
  refine lv_iadd hx hb dX11_operand_48 ?_
  refine lv_icmp_ge (tgt := 73) hx hb dX11_operand_49 (by decide) (fun q => ?_) (fun q => ?_)
  · exact wX11_operand_s73 C n v3 v4 st res (it hf q) H locs ls (lv_sub hl [0, 2, 3] rfl) hP hS
  · exact wX11_operand_s52 C n K25 v1 v3 v4 st res hK25 (ie hf q) H locs ls (lv_sub hl [0, 1, 2, 3] rfl) hP hS
def fX11_operand_s41 (n : Nat) (K25 : Int32 → Int32 → Int32 → St → Option (Int32 × St))  (v1 : Int32) (v3 : Int32) (v4 : Int32) (k0 : Int32) (st : St) : Option (Int32 × St) := if k0 = 0 then fX11_operand_s73 n v3 v4 st else fX11_operand_s44 n K25 v1 v3 v4 st
set_option maxHeartbeats 4000000 in
set_option maxRecDepth 100000 in
theorem wX11_operand_s41 (C : Cx p s m args meth c cX11_operand 5 wsL_law RX11 (some .int) D G ad) (n : Nat) (K25 : Int32 → Int32 → Int32 → St → Option (Int32 × St))  (v1 : Int32) (v3 : Int32) (v4 : Int32) (k0 : Int32)   (st : St) (res : (Int32 × St)) (hK25 : ∀ (v1 : Int32) (v3 : Int32) (v4 : Int32) (st : St), K25 v1 v3 v4 st = some res → At p l e (rmK 2) s m args below meth c D G ad (MQI D G ad below args s res) 5 st [(0, .ref (ad 130)), (1, .int v1), (3, .int v3), (4, .int v4)] 25 []) (hf : fX11_operand_s41 n K25  v1 v3 v4 k0 st = some res) : At p l e (rmK 2) s m args below meth c D G ad (MQI D G ad below args s res) 5 st [(0, .ref (ad 130)), (1, .int v1), (3, .int v3), (4, .int v4)] 41 [.int k0] := by
  obtain ⟨hx, hb, hml, hown, hts, hr, hlk, hK, had, hSt⟩ := id C
  intro H locs ls hl hP hS
  unfold fX11_operand_s41 at hf
  refine lv_if_eq (tgt := 73) hx hb dX11_operand_41 (by decide) (fun q => ?_) (fun q => ?_)
  · exact wX11_operand_s73 C n v3 v4 st res (it hf q) H locs ls (lv_sub hl [0, 2, 3] rfl) hP hS
  · exact wX11_operand_s44 C n K25 v1 v3 v4 st res hK25 (ie hf q) H locs ls (lv_sub hl [0, 1, 2, 3] rfl) hP hS
def fX11_operand_s31 (n : Nat) (K25 : Int32 → Int32 → Int32 → St → Option (Int32 × St))  (v1 : Int32) (v3 : Int32) (v4 : Int32) (k0 : Int32) (st : St) : Option (Int32 × St) := (fX11_in n k0.toInt64 48 57 st).bind (fun q => fX11_operand_s41 n K25 v1 v3 v4 q.1 q.2)
set_option maxHeartbeats 4000000 in
set_option maxRecDepth 100000 in
theorem wX11_operand_s31 (C : Cx p s m args meth c cX11_operand 5 wsL_law RX11 (some .int) D G ad) (n : Nat) (K25 : Int32 → Int32 → Int32 → St → Option (Int32 × St))  (v1 : Int32) (v3 : Int32) (v4 : Int32) (k0 : Int32)   (st : St) (res : (Int32 × St)) (hK25 : ∀ (v1 : Int32) (v3 : Int32) (v4 : Int32) (st : St), K25 v1 v3 v4 st = some res → At p l e (rmK 2) s m args below meth c D G ad (MQI D G ad below args s res) 5 st [(0, .ref (ad 130)), (1, .int v1), (3, .int v3), (4, .int v4)] 25 []) (hf : fX11_operand_s31 n K25  v1 v3 v4 k0 st = some res) : At p l e (rmK 2) s m args below meth c D G ad (MQI D G ad below args s res) 5 st [(0, .ref (ad 130)), (1, .int v1), (3, .int v3), (4, .int v4)] 31 [.int k0] := by
  obtain ⟨hx, hb, hml, hown, hts, hr, hlk, hK, had, hSt⟩ := id C
  intro H locs ls hl hP hS
  unfold fX11_operand_s31 at hf
  refine lv_i2l hx hb dX11_operand_31 rfl ?_
  refine lv_ldc2 hx hb hown (hts _ wm_30_17) dX11_operand_32 ?_
  refine lv_ldc2 hx hb hown (hts _ wm_30_18) dX11_operand_35 ?_
  obtain ⟨q, hq, hf⟩ := bd hf
  refine gcS_i (k := 0) (As := [.long k0.toInt64, .long 48, .long 57]) (rest := []) hx hb hml hown hts hK hSt hP hS hl.1 (goodS wm_10_21 wm_10_22 wm_1_5 wm_10_23) okX11_in (Nat.le_of_ble_eq_true rfl) (Nat.le_of_ble_eq_true rfl) rfl rfl (Nat.le_of_ble_eq_true rfl) dX11_operand_38 (kX11_in l D G ad had n  k0.toInt64 48 57 st q hq) (fun H locs hP hS => ?_)
  exact wX11_operand_s41 C n K25 v1 v3 v4 q.1 q.2 res hK25 hf H locs ls (lv_sub hl [0, 1, 2, 3] rfl) hP hS
def fX11_operand_s25 (n : Nat) (K25 : Int32 → Int32 → Int32 → St → Option (Int32 × St))  (v1 : Int32) (v3 : Int32) (v4 : Int32) (st : St) : Option (Int32 × St) := (fX11_byteAt n v4 st).bind (fun q => fX11_operand_s31 n K25 v1 v3 v4 q.1 q.2)
set_option maxHeartbeats 4000000 in
set_option maxRecDepth 100000 in
theorem wX11_operand_s25 (C : Cx p s m args meth c cX11_operand 5 wsL_law RX11 (some .int) D G ad) (n : Nat) (K25 : Int32 → Int32 → Int32 → St → Option (Int32 × St))  (v1 : Int32) (v3 : Int32) (v4 : Int32)   (st : St) (res : (Int32 × St)) (hK25 : ∀ (v1 : Int32) (v3 : Int32) (v4 : Int32) (st : St), K25 v1 v3 v4 st = some res → At p l e (rmK 2) s m args below meth c D G ad (MQI D G ad below args s res) 5 st [(0, .ref (ad 130)), (1, .int v1), (3, .int v3), (4, .int v4)] 25 []) (hf : fX11_operand_s25 n K25  v1 v3 v4 st = some res) : At p l e (rmK 2) s m args below meth c D G ad (MQI D G ad below args s res) 5 st [(0, .ref (ad 130)), (1, .int v1), (3, .int v3), (4, .int v4)] 25 [] := by
  obtain ⟨hx, hb, hml, hown, hts, hr, hlk, hK, had, hSt⟩ := id C
  intro H locs ls hl hP hS
  unfold fX11_operand_s25 at hf
  refine lv_aload_n hx hb dX11_operand_25 rfl (lv_at hl 0 rfl) ?_
  refine lv_iload hx hb dX11_operand_26 (lv_at hl 3 rfl) ?_
  obtain ⟨q, hq, hf⟩ := bd hf
  refine gcV_i (k := 0) (o := 130) (As := [.int v4]) (rest := []) hx hb hml hown hts hK hSt hP hS hl.1 (goodV wm_30_20 wm_30_21 wm_30_22 wm_1_5 wm_30_23) okX11_byteAt ct_130 rfl rfl (Nat.le_of_ble_eq_true rfl) (Nat.le_of_ble_eq_true rfl) rfl rfl (Nat.le_of_ble_eq_true rfl) dX11_operand_28 (kX11_byteAt l D G ad had n  v4 st q hq) (fun H locs hP hS => ?_)
  exact wX11_operand_s31 C n K25 v1 v3 v4 q.1 q.2 res hK25 hf H locs ls (lv_sub hl [0, 1, 2, 3] rfl) hP hS
def fX11_operand_L25 (n : Nat)   : Nat → Int32 → Int32 → Int32 → St → Option (Int32 × St)
  | 0, _, _, _, _ => none
  | k + 1, v1, v3, v4, st => fX11_operand_s25 n (fX11_operand_L25 n k)  v1 v3 v4 st
theorem wX11_operand_L25 (C : Cx p s m args meth c cX11_operand 5 wsL_law RX11 (some .int) D G ad) (n : Nat)    (res : (Int32 × St))  : ∀ (k : Nat) (v1 : Int32) (v3 : Int32) (v4 : Int32)  (st : St), fX11_operand_L25 n k v1 v3 v4 st = some res → At p l e (rmK 2) s m args below meth c D G ad (MQI D G ad below args s res) 5 st [(0, .ref (ad 130)), (1, .int v1), (3, .int v3), (4, .int v4)] 25 [] := by
  intro k
  induction k with
  | zero => intro v1 v3 v4  st h; exact absurd h (by intro q; cases q)
  | succ k ih => intro v1 v3 v4  st h; exact wX11_operand_s25 C n (fX11_operand_L25 n k)  v1 v3 v4   st res ih h
def fX11_operand_s20 (n : Nat)   (v1 : Int32) (st : St) : Option (Int32 × St) := fX11_operand_L25 n n v1 0 v1 st
set_option maxHeartbeats 4000000 in
set_option maxRecDepth 100000 in
theorem wX11_operand_s20 (C : Cx p s m args meth c cX11_operand 5 wsL_law RX11 (some .int) D G ad) (n : Nat)   (v1 : Int32)   (st : St) (res : (Int32 × St))  (hf : fX11_operand_s20 n   v1 st = some res) : At p l e (rmK 2) s m args below meth c D G ad (MQI D G ad below args s res) 5 st [(0, .ref (ad 130)), (1, .int v1)] 20 [] := by
  obtain ⟨hx, hb, hml, hown, hts, hr, hlk, hK, had, hSt⟩ := id C
  intro H locs ls hl hP hS
  unfold fX11_operand_s20 at hf
  refine lv_iconst (v := 0) hx hb dX11_operand_20 (by decide) ?_
  refine lv_istore_n (lv' := [(3, .int 0), (0, .ref (ad 130)), (1, .int v1)]) hx hb dX11_operand_21 rfl hl (by decide) rfl (fun ls hl => ?_)
  refine lv_iload_n hx hb dX11_operand_22 rfl (lv_at hl 2 rfl) ?_
  refine lv_istore (lv' := [(4, .int v1), (3, .int 0), (0, .ref (ad 130)), (1, .int v1)]) hx hb dX11_operand_23 hl (by decide) rfl (fun ls hl => ?_)
  exact wX11_operand_L25 C n res n v1 0 v1 st hf H locs ls (lv_sub hl [2, 3, 1, 0] rfl) hP hS
def fX11_operand_s17 (n : Nat)   (v1 : Int32) (v2 : Int32) (k0 : Int32) (st : St) : Option (Int32 × St) := if k0 = 0 then fX11_operand_s81 n v1 v2 st else fX11_operand_s20 n v1 st
set_option maxHeartbeats 4000000 in
set_option maxRecDepth 100000 in
theorem wX11_operand_s17 (C : Cx p s m args meth c cX11_operand 5 wsL_law RX11 (some .int) D G ad) (n : Nat)   (v1 : Int32) (v2 : Int32) (k0 : Int32)   (st : St) (res : (Int32 × St))  (hf : fX11_operand_s17 n   v1 v2 k0 st = some res) : At p l e (rmK 2) s m args below meth c D G ad (MQI D G ad below args s res) 5 st [(0, .ref (ad 130)), (1, .int v1), (2, .int v2)] 17 [.int k0] := by
  obtain ⟨hx, hb, hml, hown, hts, hr, hlk, hK, had, hSt⟩ := id C
  intro H locs ls hl hP hS
  unfold fX11_operand_s17 at hf
  refine lv_if_eq (tgt := 81) hx hb dX11_operand_17 (by decide) (fun q => ?_) (fun q => ?_)
  · exact wX11_operand_s81 C n v1 v2 st res (it hf q) H locs ls (lv_sub hl [0, 1, 2] rfl) hP hS
  · exact wX11_operand_s20 C n v1 st res (ie hf q) H locs ls (lv_sub hl [0, 1] rfl) hP hS
def fX11_operand_s5 (n : Nat)   (v1 : Int32) (k0 : Int32) (st : St) : Option (Int32 × St) := (fX11_in n k0.toInt64 48 57 st).bind (fun q => fX11_operand_s17 n v1 k0 q.1 q.2)
set_option maxHeartbeats 4000000 in
set_option maxRecDepth 100000 in
theorem wX11_operand_s5 (C : Cx p s m args meth c cX11_operand 5 wsL_law RX11 (some .int) D G ad) (n : Nat)   (v1 : Int32) (k0 : Int32)   (st : St) (res : (Int32 × St))  (hf : fX11_operand_s5 n   v1 k0 st = some res) : At p l e (rmK 2) s m args below meth c D G ad (MQI D G ad below args s res) 5 st [(0, .ref (ad 130)), (1, .int v1)] 5 [.int k0] := by
  obtain ⟨hx, hb, hml, hown, hts, hr, hlk, hK, had, hSt⟩ := id C
  intro H locs ls hl hP hS
  unfold fX11_operand_s5 at hf
  refine lv_istore_n (lv' := [(2, .int k0), (0, .ref (ad 130)), (1, .int v1)]) hx hb dX11_operand_5 rfl hl (by decide) rfl (fun ls hl => ?_)
  refine lv_iload_n hx hb dX11_operand_6 rfl (lv_at hl 0 rfl) ?_
  refine lv_i2l hx hb dX11_operand_7 rfl ?_
  refine lv_ldc2 hx hb hown (hts _ wm_30_17) dX11_operand_8 ?_
  refine lv_ldc2 hx hb hown (hts _ wm_30_18) dX11_operand_11 ?_
  obtain ⟨q, hq, hf⟩ := bd hf
  refine gcS_i (k := 0) (As := [.long k0.toInt64, .long 48, .long 57]) (rest := []) hx hb hml hown hts hK hSt hP hS hl.1 (goodS wm_10_21 wm_10_22 wm_1_5 wm_10_23) okX11_in (Nat.le_of_ble_eq_true rfl) (Nat.le_of_ble_eq_true rfl) rfl rfl (Nat.le_of_ble_eq_true rfl) dX11_operand_14 (kX11_in l D G ad had n  k0.toInt64 48 57 st q hq) (fun H locs hP hS => ?_)
  exact wX11_operand_s17 C n v1 k0 q.1 q.2 res hf H locs ls (lv_sub hl [1, 2, 0] rfl) hP hS
def fX11_operand_s0 (n : Nat)   (v1 : Int32) (st : St) : Option (Int32 × St) := (fX11_byteAt n v1 st).bind (fun q => fX11_operand_s5 n v1 q.1 q.2)
set_option maxHeartbeats 4000000 in
set_option maxRecDepth 100000 in
theorem wX11_operand_s0 (C : Cx p s m args meth c cX11_operand 5 wsL_law RX11 (some .int) D G ad) (n : Nat)   (v1 : Int32)   (st : St) (res : (Int32 × St))  (hf : fX11_operand_s0 n   v1 st = some res) : At p l e (rmK 2) s m args below meth c D G ad (MQI D G ad below args s res) 5 st [(0, .ref (ad 130)), (1, .int v1)] 0 [] := by
  obtain ⟨hx, hb, hml, hown, hts, hr, hlk, hK, had, hSt⟩ := id C
  intro H locs ls hl hP hS
  unfold fX11_operand_s0 at hf
  refine lv_aload_n hx hb dX11_operand_0 rfl (lv_at hl 0 rfl) ?_
  refine lv_iload_n hx hb dX11_operand_1 rfl (lv_at hl 1 rfl) ?_
  obtain ⟨q, hq, hf⟩ := bd hf
  refine gcV_i (k := 0) (o := 130) (As := [.int v1]) (rest := []) hx hb hml hown hts hK hSt hP hS hl.1 (goodV wm_30_20 wm_30_21 wm_30_22 wm_1_5 wm_30_23) okX11_byteAt ct_130 rfl rfl (Nat.le_of_ble_eq_true rfl) (Nat.le_of_ble_eq_true rfl) rfl rfl (Nat.le_of_ble_eq_true rfl) dX11_operand_2 (kX11_byteAt l D G ad had n  v1 st q hq) (fun H locs hP hS => ?_)
  exact wX11_operand_s5 C n v1 q.1 q.2 res hf H locs ls (lv_sub hl [0, 1] rfl) hP hS
def fX11_operand (n : Nat)  (a1 : Int32) (st : St) : Option (Int32 × St) := fX11_operand_s0 n a1 st
theorem okX11_operand : okY yX11_operand RX11 1 := by unfold okY; decide +kernel
end
set_option maxRecDepth 100000 in
theorem kX11_operand (l : Launch) (D : va_G) (G : G3) (ad : Nat → Nat) (had : Adr ad) (n : Nat)   (a1 : Int32) (st : St) (res : (Int32 × St)) (hf : fX11_operand n  a1 st = some res) {sz : Nat} : CtI l yX11_operand (wsU yX11_operand cX11_operand 5 (some .int)) (rmK 2) D G ad sz [.ref (ad 130), .int a1] st res := by
  refine Met.ofW (cc := cX11_operand) (maxL := 5) (ret := (some .int)) (by decide) rfl ?_
  intro p e s m args below meth c s₁ B hml hv
  obtain ⟨rfl, hsz, hP, hK, hSt⟩ := hv
  have hts := atoms_spec (ws := wsU yX11_operand cX11_operand 5 (some .int)) B.pre
  have C : Cx p s m _ meth c cX11_operand 5 wsL_law RX11 (some .int) D G ad := ⟨B.exec, B.bytes, hml, findClass_of_methodNamed B.named, fun w h => hts w (List.mem_cons_of_mem _ h), B.returns, B.notSynchronized, hK, had, hSt⟩
  subst hsz
  have hl := lv_entry ([.ref (ad 130), .int a1]) (n := 5) (Nat.le_of_ble_eq_true rfl)
  rw [lg_entry_eq]
  generalize (lg_sl ([.ref (ad 130), .int a1]) ++ List.replicate (5 - (lg_sl ([.ref (ad 130), .int a1])).length) Slot.unset).toArray = ls at hl ⊢
  exact wX11_operand_s0 C n  a1   st res hf s.heap [] ls (lv_sub hl [0, 1] rfl) hP va_S.rf
section
variable {p : Program} {l : Launch} {e : Env} {s : State} {m : MethodId} {args : Array Value} {below : List Frame} {meth : Method} {c : Code} {D : va_G} {G : G3} {ad : Nat → Nat}
def fX11_behind_s217 (n : Nat)   (v1 : Int32) (st : St) : Option (Int32 × St) := some ((-1) - v1, st)
set_option maxHeartbeats 4000000 in
set_option maxRecDepth 100000 in
theorem wX11_behind_s217 (C : Cx p s m args meth c cX11_behind 5 wsL_law RX11 (some .int) D G ad) (n : Nat)   (v1 : Int32)   (st : St) (res : (Int32 × St))  (hf : fX11_behind_s217 n   v1 st = some res) : At p l e (rmK 2) s m args below meth c D G ad (MQI D G ad below args s res) 5 st [(1, .int v1)] 217 [] := by
  obtain ⟨hx, hb, hml, hown, hts, hr, hlk, hK, had, hSt⟩ := id C
  intro H locs ls hl hP hS
  unfold fX11_behind_s217 at hf
  refine lv_iconst (v := (-1)) hx hb dX11_behind_217 (by decide) ?_
  refine lv_iload_n hx hb dX11_behind_218 rfl (lv_at hl 0 rfl) ?_
  refine lv_isub hx hb dX11_behind_219 ?_
  exact g_iret hx hb hr hlk hP hS dX11_behind_220 hf
def fX11_behind_s213 (n : Nat)   (v1 : Int32) (st : St) : Option (Int32 × St) := some (v1 + 1, st)
set_option maxHeartbeats 4000000 in
set_option maxRecDepth 100000 in
theorem wX11_behind_s213 (C : Cx p s m args meth c cX11_behind 5 wsL_law RX11 (some .int) D G ad) (n : Nat)   (v1 : Int32)   (st : St) (res : (Int32 × St))  (hf : fX11_behind_s213 n   v1 st = some res) : At p l e (rmK 2) s m args below meth c D G ad (MQI D G ad below args s res) 5 st [(1, .int v1)] 213 [] := by
  obtain ⟨hx, hb, hml, hown, hts, hr, hlk, hK, had, hSt⟩ := id C
  intro H locs ls hl hP hS
  unfold fX11_behind_s213 at hf
  refine lv_iload_n hx hb dX11_behind_213 rfl (lv_at hl 0 rfl) ?_
  refine lv_iconst (v := 1) hx hb dX11_behind_214 (by decide) ?_
  refine lv_iadd hx hb dX11_behind_215 ?_
  exact g_iret hx hb hr hlk hP hS dX11_behind_216 hf
def fX11_behind_s203 (n : Nat)   (v1 : Int32) (v4 : Int32) (st : St) : Option (Int32 × St) := (fX11_puts n (20000 + v4) st).bind (fun q => fX11_behind_s213 n v1 q.2)
set_option maxHeartbeats 4000000 in
set_option maxRecDepth 100000 in
theorem wX11_behind_s203 (C : Cx p s m args meth c cX11_behind 5 wsL_law RX11 (some .int) D G ad) (n : Nat)   (v1 : Int32) (v4 : Int32)   (st : St) (res : (Int32 × St))  (hf : fX11_behind_s203 n   v1 v4 st = some res) : At p l e (rmK 2) s m args below meth c D G ad (MQI D G ad below args s res) 5 st [(0, .ref (ad 130)), (1, .int v1), (4, .int v4)] 203 [] := by
  obtain ⟨hx, hb, hml, hown, hts, hr, hlk, hK, had, hSt⟩ := id C
  intro H locs ls hl hP hS
  unfold fX11_behind_s203 at hf
  refine lv_aload_n hx hb dX11_behind_203 rfl (lv_at hl 0 rfl) ?_
  refine lv_sipush (v := 20000) hx hb dX11_behind_204 (by decide) ?_
  refine lv_iload hx hb dX11_behind_207 (lv_at hl 2 rfl) ?_
  refine lv_iadd hx hb dX11_behind_209 ?_
  obtain ⟨q, hq, hf⟩ := bd hf
  refine gcV_v (k := 0) (o := 130) (As := [.int (20000 + v4)]) (rest := []) hx hb hml hown hts hK hSt hP hS hl.1 (goodV wm_31_0 wm_31_1 wm_31_2 wm_1_5 wm_31_3) okX11_puts ct_130 rfl rfl (Nat.le_of_ble_eq_true rfl) (Nat.le_of_ble_eq_true rfl) rfl rfl (Nat.le_of_ble_eq_true rfl) dX11_behind_210 (kX11_puts l D G ad had n  (20000 + v4) st q hq) (fun H locs hP hS => ?_)
  exact wX11_behind_s213 C n v1 q.2 res hf H locs ls (lv_sub hl [1] rfl) hP hS
def fX11_behind_s196 (n : Nat)   (v1 : Int32) (v4 : Int32) (st : St) : Option (Int32 × St) := if v4 = 40 then fX11_behind_s213 n v1 st else fX11_behind_s203 n v1 v4 st
set_option maxHeartbeats 4000000 in
set_option maxRecDepth 100000 in
theorem wX11_behind_s196 (C : Cx p s m args meth c cX11_behind 5 wsL_law RX11 (some .int) D G ad) (n : Nat)   (v1 : Int32) (v4 : Int32)   (st : St) (res : (Int32 × St))  (hf : fX11_behind_s196 n   v1 v4 st = some res) : At p l e (rmK 2) s m args below meth c D G ad (MQI D G ad below args s res) 5 st [(0, .ref (ad 130)), (1, .int v1), (4, .int v4)] 196 [] := by
  obtain ⟨hx, hb, hml, hown, hts, hr, hlk, hK, had, hSt⟩ := id C
  intro H locs ls hl hP hS
  unfold fX11_behind_s196 at hf
  refine lv_iload hx hb dX11_behind_196 (lv_at hl 2 rfl) ?_
  refine lv_bipush (v := 40) hx hb dX11_behind_198 (by decide) ?_
  refine lv_icmp_eq (tgt := 213) hx hb dX11_behind_200 (by decide) (fun q => ?_) (fun q => ?_)
  · exact wX11_behind_s213 C n v1 st res (it hf q) H locs ls (lv_sub hl [1] rfl) hP hS
  · exact wX11_behind_s203 C n v1 v4 st res (ie hf q) H locs ls (lv_sub hl [0, 1, 2] rfl) hP hS
def fX11_behind_s186 (n : Nat)   (v1 : Int32) (v4 : Int32) (st : St) : Option (Int32 × St) := fX11_behind_s196 n v1 v4 (setI st 130 36 ((st.1 130 36) - 1))
set_option maxHeartbeats 4000000 in
set_option maxRecDepth 100000 in
theorem wX11_behind_s186 (C : Cx p s m args meth c cX11_behind 5 wsL_law RX11 (some .int) D G ad) (n : Nat)   (v1 : Int32) (v4 : Int32)   (st : St) (res : (Int32 × St))  (hf : fX11_behind_s186 n   v1 v4 st = some res) : At p l e (rmK 2) s m args below meth c D G ad (MQI D G ad below args s res) 5 st [(0, .ref (ad 130)), (1, .int v1), (4, .int v4)] 186 [] := by
  obtain ⟨hx, hb, hml, hown, hts, hr, hlk, hK, had, hSt⟩ := id C
  intro H locs ls hl hP hS
  unfold fX11_behind_s186 at hf
  refine lv_aload_n hx hb dX11_behind_186 rfl (lv_at hl 0 rfl) ?_
  refine lv_dup hx hb dX11_behind_187 rfl ?_
  refine g_getI hx hb hts inlX11 hown hK hP 130 ct_130 rfl 36 (by decide) (hts _ wm_30_12) rfl dX11_behind_188 ?_
  refine lv_iconst (v := 1) hx hb dX11_behind_191 (by decide) ?_
  refine lv_isub hx hb dX11_behind_192 ?_
  refine g_putI hx hb hts inlX11 tyX11_ok nmX11 hown hK had hP hS 130 ct_130 rfl 36 (by decide) (hts _ wm_30_12) rfl rfl rfl rfl rfl dX11_behind_193 (fun H locs hP hS => ?_)
  exact wX11_behind_s196 C n v1 v4 (setI st 130 36 ((st.1 130 36) - 1)) res hf H locs ls (lv_sub hl [0, 1, 2] rfl) hP hS
def fX11_behind_s176 (n : Nat)   (v1 : Int32) (v4 : Int32) (st : St) : Option (Int32 × St) := fX11_behind_s186 n v1 v4 (setI st 130 35 ((st.1 130 35) - 1))
set_option maxHeartbeats 4000000 in
set_option maxRecDepth 100000 in
theorem wX11_behind_s176 (C : Cx p s m args meth c cX11_behind 5 wsL_law RX11 (some .int) D G ad) (n : Nat)   (v1 : Int32) (v4 : Int32)   (st : St) (res : (Int32 × St))  (hf : fX11_behind_s176 n   v1 v4 st = some res) : At p l e (rmK 2) s m args below meth c D G ad (MQI D G ad below args s res) 5 st [(0, .ref (ad 130)), (1, .int v1), (4, .int v4)] 176 [] := by
  obtain ⟨hx, hb, hml, hown, hts, hr, hlk, hK, had, hSt⟩ := id C
  intro H locs ls hl hP hS
  unfold fX11_behind_s176 at hf
  refine lv_aload_n hx hb dX11_behind_176 rfl (lv_at hl 0 rfl) ?_
  refine lv_dup hx hb dX11_behind_177 rfl ?_
  refine g_getI hx hb hts inlX11 hown hK hP 130 ct_130 rfl 35 (by decide) (hts _ wm_30_11) rfl dX11_behind_178 ?_
  refine lv_iconst (v := 1) hx hb dX11_behind_181 (by decide) ?_
  refine lv_isub hx hb dX11_behind_182 ?_
  refine g_putI hx hb hts inlX11 tyX11_ok nmX11 hown hK had hP hS 130 ct_130 rfl 35 (by decide) (hts _ wm_30_11) rfl rfl rfl rfl rfl dX11_behind_183 (fun H locs hP hS => ?_)
  exact wX11_behind_s186 C n v1 v4 (setI st 130 35 ((st.1 130 35) - 1)) res hf H locs ls (lv_sub hl [0, 1, 2] rfl) hP hS
def fX11_behind_s171 (n : Nat)   (v1 : Int32) (v4 : Int32) (st : St) : Option (Int32 × St) := (fX11_unwinds n 1 st).bind (fun q => fX11_behind_s176 n v1 v4 q.2)
set_option maxHeartbeats 4000000 in
set_option maxRecDepth 100000 in
theorem wX11_behind_s171 (C : Cx p s m args meth c cX11_behind 5 wsL_law RX11 (some .int) D G ad) (n : Nat)   (v1 : Int32) (v4 : Int32)   (st : St) (res : (Int32 × St))  (hf : fX11_behind_s171 n   v1 v4 st = some res) : At p l e (rmK 2) s m args below meth c D G ad (MQI D G ad below args s res) 5 st [(0, .ref (ad 130)), (1, .int v1), (4, .int v4)] 171 [] := by
  obtain ⟨hx, hb, hml, hown, hts, hr, hlk, hK, had, hSt⟩ := id C
  intro H locs ls hl hP hS
  unfold fX11_behind_s171 at hf
  refine lv_aload_n hx hb dX11_behind_171 rfl (lv_at hl 0 rfl) ?_
  refine lv_iconst (v := 1) hx hb dX11_behind_172 (by decide) ?_
  obtain ⟨q, hq, hf⟩ := bd hf
  refine gcV_v (k := 1) (o := 130) (As := [.int 1]) (rest := []) hx hb hml hown hts hK hSt hP hS hl.1 (goodV wm_31_19 wm_31_20 wm_31_21 wm_1_5 wm_31_22) okX11_unwinds ct_130 rfl rfl (Nat.le_of_ble_eq_true rfl) (Nat.le_of_ble_eq_true rfl) rfl rfl (Nat.le_of_ble_eq_true rfl) dX11_behind_173 (kX11_unwinds l D G ad had n  1 st q hq) (fun H locs hP hS => ?_)
  exact wX11_behind_s176 C n v1 v4 q.2 res hf H locs ls (lv_sub hl [0, 1, 2] rfl) hP hS
def fX11_behind_s164 (n : Nat)   (v1 : Int32) (v4 : Int32) (st : St) : Option (Int32 × St) := if v4 = 88 then fX11_behind_s171 n v1 v4 st else fX11_behind_s217 n v1 st
set_option maxHeartbeats 4000000 in
set_option maxRecDepth 100000 in
theorem wX11_behind_s164 (C : Cx p s m args meth c cX11_behind 5 wsL_law RX11 (some .int) D G ad) (n : Nat)   (v1 : Int32) (v4 : Int32)   (st : St) (res : (Int32 × St))  (hf : fX11_behind_s164 n   v1 v4 st = some res) : At p l e (rmK 2) s m args below meth c D G ad (MQI D G ad below args s res) 5 st [(0, .ref (ad 130)), (1, .int v1), (4, .int v4)] 164 [] := by
  obtain ⟨hx, hb, hml, hown, hts, hr, hlk, hK, had, hSt⟩ := id C
  intro H locs ls hl hP hS
  unfold fX11_behind_s164 at hf
  refine lv_iload hx hb dX11_behind_164 (lv_at hl 2 rfl) ?_
  refine lv_bipush (v := 88) hx hb dX11_behind_166 (by decide) ?_
  refine lv_icmp_ne (tgt := 217) hx hb dX11_behind_168 (by decide) (fun q => ?_) (fun q => ?_)
  · exact wX11_behind_s217 C n v1 st res (ie hf q) H locs ls (lv_sub hl [1] rfl) hP hS
  · exact wX11_behind_s171 C n v1 v4 st res (it hf q) H locs ls (lv_sub hl [0, 1, 2] rfl) hP hS
def fX11_behind_s157 (n : Nat)   (v1 : Int32) (v4 : Int32) (st : St) : Option (Int32 × St) := if v4 = 77 then fX11_behind_s171 n v1 v4 st else fX11_behind_s164 n v1 v4 st
set_option maxHeartbeats 4000000 in
set_option maxRecDepth 100000 in
theorem wX11_behind_s157 (C : Cx p s m args meth c cX11_behind 5 wsL_law RX11 (some .int) D G ad) (n : Nat)   (v1 : Int32) (v4 : Int32)   (st : St) (res : (Int32 × St))  (hf : fX11_behind_s157 n   v1 v4 st = some res) : At p l e (rmK 2) s m args below meth c D G ad (MQI D G ad below args s res) 5 st [(0, .ref (ad 130)), (1, .int v1), (4, .int v4)] 157 [] := by
  obtain ⟨hx, hb, hml, hown, hts, hr, hlk, hK, had, hSt⟩ := id C
  intro H locs ls hl hP hS
  unfold fX11_behind_s157 at hf
  refine lv_iload hx hb dX11_behind_157 (lv_at hl 2 rfl) ?_
  refine lv_bipush (v := 77) hx hb dX11_behind_159 (by decide) ?_
  refine lv_icmp_eq (tgt := 171) hx hb dX11_behind_161 (by decide) (fun q => ?_) (fun q => ?_)
  · exact wX11_behind_s171 C n v1 v4 st res (it hf q) H locs ls (lv_sub hl [0, 1, 2] rfl) hP hS
  · exact wX11_behind_s164 C n v1 v4 st res (ie hf q) H locs ls (lv_sub hl [0, 1, 2] rfl) hP hS
def fX11_behind_s150 (n : Nat)   (v1 : Int32) (v4 : Int32) (st : St) : Option (Int32 × St) := if v4 = 40 then fX11_behind_s171 n v1 v4 st else fX11_behind_s157 n v1 v4 st
set_option maxHeartbeats 4000000 in
set_option maxRecDepth 100000 in
theorem wX11_behind_s150 (C : Cx p s m args meth c cX11_behind 5 wsL_law RX11 (some .int) D G ad) (n : Nat)   (v1 : Int32) (v4 : Int32)   (st : St) (res : (Int32 × St))  (hf : fX11_behind_s150 n   v1 v4 st = some res) : At p l e (rmK 2) s m args below meth c D G ad (MQI D G ad below args s res) 5 st [(0, .ref (ad 130)), (1, .int v1), (4, .int v4)] 150 [] := by
  obtain ⟨hx, hb, hml, hown, hts, hr, hlk, hK, had, hSt⟩ := id C
  intro H locs ls hl hP hS
  unfold fX11_behind_s150 at hf
  refine lv_iload hx hb dX11_behind_150 (lv_at hl 2 rfl) ?_
  refine lv_bipush (v := 40) hx hb dX11_behind_152 (by decide) ?_
  refine lv_icmp_eq (tgt := 171) hx hb dX11_behind_154 (by decide) (fun q => ?_) (fun q => ?_)
  · exact wX11_behind_s171 C n v1 v4 st res (it hf q) H locs ls (lv_sub hl [0, 1, 2] rfl) hP hS
  · exact wX11_behind_s157 C n v1 v4 st res (ie hf q) H locs ls (lv_sub hl [0, 1, 2] rfl) hP hS
def fX11_behind_s144 (n : Nat)   (v1 : Int32) (v2 : Int32) (v4 : Int32) (st : St) : Option (Int32 × St) := if v2 = 41 then fX11_behind_s150 n v1 v4 st else fX11_behind_s217 n v1 st
set_option maxHeartbeats 4000000 in
set_option maxRecDepth 100000 in
theorem wX11_behind_s144 (C : Cx p s m args meth c cX11_behind 5 wsL_law RX11 (some .int) D G ad) (n : Nat)   (v1 : Int32) (v2 : Int32) (v4 : Int32)   (st : St) (res : (Int32 × St))  (hf : fX11_behind_s144 n   v1 v2 v4 st = some res) : At p l e (rmK 2) s m args below meth c D G ad (MQI D G ad below args s res) 5 st [(0, .ref (ad 130)), (1, .int v1), (2, .int v2), (4, .int v4)] 144 [] := by
  obtain ⟨hx, hb, hml, hown, hts, hr, hlk, hK, had, hSt⟩ := id C
  intro H locs ls hl hP hS
  unfold fX11_behind_s144 at hf
  refine lv_iload_n hx hb dX11_behind_144 rfl (lv_at hl 2 rfl) ?_
  refine lv_bipush (v := 41) hx hb dX11_behind_145 (by decide) ?_
  refine lv_icmp_ne (tgt := 217) hx hb dX11_behind_147 (by decide) (fun q => ?_) (fun q => ?_)
  · exact wX11_behind_s217 C n v1 st res (ie hf q) H locs ls (lv_sub hl [1] rfl) hP hS
  · exact wX11_behind_s150 C n v1 v4 st res (it hf q) H locs ls (lv_sub hl [0, 1, 3] rfl) hP hS
def fX11_behind_s140 (n : Nat)   (v1 : Int32) (st : St) : Option (Int32 × St) := some (v1 + 1, st)
set_option maxHeartbeats 4000000 in
set_option maxRecDepth 100000 in
theorem wX11_behind_s140 (C : Cx p s m args meth c cX11_behind 5 wsL_law RX11 (some .int) D G ad) (n : Nat)   (v1 : Int32)   (st : St) (res : (Int32 × St))  (hf : fX11_behind_s140 n   v1 st = some res) : At p l e (rmK 2) s m args below meth c D G ad (MQI D G ad below args s res) 5 st [(1, .int v1)] 140 [] := by
  obtain ⟨hx, hb, hml, hown, hts, hr, hlk, hK, had, hSt⟩ := id C
  intro H locs ls hl hP hS
  unfold fX11_behind_s140 at hf
  refine lv_iload_n hx hb dX11_behind_140 rfl (lv_at hl 0 rfl) ?_
  refine lv_iconst (v := 1) hx hb dX11_behind_141 (by decide) ?_
  refine lv_iadd hx hb dX11_behind_142 ?_
  exact g_iret hx hb hr hlk hP hS dX11_behind_143 hf
def fX11_behind_s139 (n : Nat)   (v1 : Int32) (k1 : Int32) (k2 : Int32) (st : St) : Option (Int32 × St) := if inb k1 130 = true then (fX11_behind_s140 n v1 (setI st 157 k1.toNatClampNeg k2)) else none
set_option maxHeartbeats 4000000 in
set_option maxRecDepth 100000 in
theorem wX11_behind_s139 (C : Cx p s m args meth c cX11_behind 5 wsL_law RX11 (some .int) D G ad) (n : Nat)   (v1 : Int32) (k1 : Int32) (k2 : Int32)   (st : St) (res : (Int32 × St))  (hf : fX11_behind_s139 n   v1 k1 k2 st = some res) : At p l e (rmK 2) s m args below meth c D G ad (MQI D G ad below args s res) 5 st [(1, .int v1)] 139 [.int k2, .int k1, .ref (ad 157)] := by
  obtain ⟨hx, hb, hml, hown, hts, hr, hlk, hK, had, hSt⟩ := id C
  intro H locs ls hl hP hS
  unfold fX11_behind_s139 at hf
  obtain ⟨g1, hf⟩ := gd hf
  refine g_iast hx hb hK had hP hS 157 ct_157 g1 dX11_behind_139 (fun H locs hP hS => ?_)
  exact wX11_behind_s140 C n v1 (setI st 157 k1.toNatClampNeg k2) res hf H locs ls (lv_sub hl [0] rfl) hP hS
def fX11_behind_s137 (n : Nat)   (v1 : Int32) (k1 : Int32) (st : St) : Option (Int32 × St) := fX11_behind_s139 n v1 k1 88 st
set_option maxHeartbeats 4000000 in
set_option maxRecDepth 100000 in
theorem wX11_behind_s137 (C : Cx p s m args meth c cX11_behind 5 wsL_law RX11 (some .int) D G ad) (n : Nat)   (v1 : Int32) (k1 : Int32)   (st : St) (res : (Int32 × St))  (hf : fX11_behind_s137 n   v1 k1 st = some res) : At p l e (rmK 2) s m args below meth c D G ad (MQI D G ad below args s res) 5 st [(1, .int v1)] 137 [.int k1, .ref (ad 157)] := by
  obtain ⟨hx, hb, hml, hown, hts, hr, hlk, hK, had, hSt⟩ := id C
  intro H locs ls hl hP hS
  unfold fX11_behind_s137 at hf
  refine lv_bipush (v := 88) hx hb dX11_behind_137 (by decide) ?_
  exact wX11_behind_s139 C n v1 k1 88 st res hf H locs ls (lv_sub hl [0] rfl) hP hS
def fX11_behind_s132 (n : Nat)   (v1 : Int32) (k1 : Int32) (st : St) : Option (Int32 × St) := fX11_behind_s139 n v1 k1 77 st
set_option maxHeartbeats 4000000 in
set_option maxRecDepth 100000 in
theorem wX11_behind_s132 (C : Cx p s m args meth c cX11_behind 5 wsL_law RX11 (some .int) D G ad) (n : Nat)   (v1 : Int32) (k1 : Int32)   (st : St) (res : (Int32 × St))  (hf : fX11_behind_s132 n   v1 k1 st = some res) : At p l e (rmK 2) s m args below meth c D G ad (MQI D G ad below args s res) 5 st [(1, .int v1)] 132 [.int k1, .ref (ad 157)] := by
  obtain ⟨hx, hb, hml, hown, hts, hr, hlk, hK, had, hSt⟩ := id C
  intro H locs ls hl hP hS
  unfold fX11_behind_s132 at hf
  refine lv_bipush (v := 77) hx hb dX11_behind_132 (by decide) ?_
  refine lv_goto (tgt := 139) hx hb dX11_behind_134 (by decide) ?_
  exact wX11_behind_s139 C n v1 k1 77 st res hf H locs ls (lv_sub hl [0] rfl) hP hS
def fX11_behind_s115 (n : Nat)   (v1 : Int32) (v4 : Int32) (st : St) : Option (Int32 × St) := if v4 = 109 then fX11_behind_s132 n v1 ((st.1 130 35) - 1) st else fX11_behind_s137 n v1 ((st.1 130 35) - 1) st
set_option maxHeartbeats 4000000 in
set_option maxRecDepth 100000 in
theorem wX11_behind_s115 (C : Cx p s m args meth c cX11_behind 5 wsL_law RX11 (some .int) D G ad) (n : Nat)   (v1 : Int32) (v4 : Int32)   (st : St) (res : (Int32 × St))  (hf : fX11_behind_s115 n   v1 v4 st = some res) : At p l e (rmK 2) s m args below meth c D G ad (MQI D G ad below args s res) 5 st [(0, .ref (ad 130)), (1, .int v1), (4, .int v4)] 115 [] := by
  obtain ⟨hx, hb, hml, hown, hts, hr, hlk, hK, had, hSt⟩ := id C
  intro H locs ls hl hP hS
  unfold fX11_behind_s115 at hf
  refine lv_aload_n hx hb dX11_behind_115 rfl (lv_at hl 0 rfl) ?_
  refine g_getR hx hb hts inlX11 hown hK hP 130 ct_130 rfl 34 (by decide) (hts _ wm_8_4) rfl dX11_behind_116 ?_
  refine lv_aload_n hx hb dX11_behind_119 rfl (lv_at hl 0 rfl) ?_
  refine g_getI hx hb hts inlX11 hown hK hP 130 ct_130 rfl 35 (by decide) (hts _ wm_30_11) rfl dX11_behind_120 ?_
  refine lv_iconst (v := 1) hx hb dX11_behind_123 (by decide) ?_
  refine lv_isub hx hb dX11_behind_124 ?_
  refine lv_iload hx hb dX11_behind_125 (lv_at hl 2 rfl) ?_
  refine lv_bipush (v := 109) hx hb dX11_behind_127 (by decide) ?_
  refine lv_icmp_ne (tgt := 137) hx hb dX11_behind_129 (by decide) (fun q => ?_) (fun q => ?_)
  · exact wX11_behind_s137 C n v1 ((st.1 130 35) - 1) st res (ie hf q) H locs ls (lv_sub hl [1] rfl) hP hS
  · exact wX11_behind_s132 C n v1 ((st.1 130 35) - 1) st res (it hf q) H locs ls (lv_sub hl [1] rfl) hP hS
def fX11_behind_s110 (n : Nat)   (v1 : Int32) (v4 : Int32) (st : St) : Option (Int32 × St) := (fX11_unwinds n 1 st).bind (fun q => fX11_behind_s115 n v1 v4 q.2)
set_option maxHeartbeats 4000000 in
set_option maxRecDepth 100000 in
theorem wX11_behind_s110 (C : Cx p s m args meth c cX11_behind 5 wsL_law RX11 (some .int) D G ad) (n : Nat)   (v1 : Int32) (v4 : Int32)   (st : St) (res : (Int32 × St))  (hf : fX11_behind_s110 n   v1 v4 st = some res) : At p l e (rmK 2) s m args below meth c D G ad (MQI D G ad below args s res) 5 st [(0, .ref (ad 130)), (1, .int v1), (4, .int v4)] 110 [] := by
  obtain ⟨hx, hb, hml, hown, hts, hr, hlk, hK, had, hSt⟩ := id C
  intro H locs ls hl hP hS
  unfold fX11_behind_s110 at hf
  refine lv_aload_n hx hb dX11_behind_110 rfl (lv_at hl 0 rfl) ?_
  refine lv_iconst (v := 1) hx hb dX11_behind_111 (by decide) ?_
  obtain ⟨q, hq, hf⟩ := bd hf
  refine gcV_v (k := 1) (o := 130) (As := [.int 1]) (rest := []) hx hb hml hown hts hK hSt hP hS hl.1 (goodV wm_31_19 wm_31_20 wm_31_21 wm_1_5 wm_31_22) okX11_unwinds ct_130 rfl rfl (Nat.le_of_ble_eq_true rfl) (Nat.le_of_ble_eq_true rfl) rfl rfl (Nat.le_of_ble_eq_true rfl) dX11_behind_112 (kX11_unwinds l D G ad had n  1 st q hq) (fun H locs hP hS => ?_)
  exact wX11_behind_s115 C n v1 v4 q.2 res hf H locs ls (lv_sub hl [0, 1, 2] rfl) hP hS
def fX11_behind_s103 (n : Nat)   (v1 : Int32) (v2 : Int32) (v4 : Int32) (st : St) : Option (Int32 × St) := if v4 = 120 then fX11_behind_s110 n v1 v4 st else fX11_behind_s144 n v1 v2 v4 st
set_option maxHeartbeats 4000000 in
set_option maxRecDepth 100000 in
theorem wX11_behind_s103 (C : Cx p s m args meth c cX11_behind 5 wsL_law RX11 (some .int) D G ad) (n : Nat)   (v1 : Int32) (v2 : Int32) (v4 : Int32)   (st : St) (res : (Int32 × St))  (hf : fX11_behind_s103 n   v1 v2 v4 st = some res) : At p l e (rmK 2) s m args below meth c D G ad (MQI D G ad below args s res) 5 st [(0, .ref (ad 130)), (1, .int v1), (2, .int v2), (4, .int v4)] 103 [] := by
  obtain ⟨hx, hb, hml, hown, hts, hr, hlk, hK, had, hSt⟩ := id C
  intro H locs ls hl hP hS
  unfold fX11_behind_s103 at hf
  refine lv_iload hx hb dX11_behind_103 (lv_at hl 3 rfl) ?_
  refine lv_bipush (v := 120) hx hb dX11_behind_105 (by decide) ?_
  refine lv_icmp_ne (tgt := 144) hx hb dX11_behind_107 (by decide) (fun q => ?_) (fun q => ?_)
  · exact wX11_behind_s144 C n v1 v2 v4 st res (ie hf q) H locs ls (lv_sub hl [0, 1, 2, 3] rfl) hP hS
  · exact wX11_behind_s110 C n v1 v4 st res (it hf q) H locs ls (lv_sub hl [0, 1, 3] rfl) hP hS
def fX11_behind_s96 (n : Nat)   (v1 : Int32) (v2 : Int32) (v4 : Int32) (st : St) : Option (Int32 × St) := if v4 = 109 then fX11_behind_s110 n v1 v4 st else fX11_behind_s103 n v1 v2 v4 st
set_option maxHeartbeats 4000000 in
set_option maxRecDepth 100000 in
theorem wX11_behind_s96 (C : Cx p s m args meth c cX11_behind 5 wsL_law RX11 (some .int) D G ad) (n : Nat)   (v1 : Int32) (v2 : Int32) (v4 : Int32)   (st : St) (res : (Int32 × St))  (hf : fX11_behind_s96 n   v1 v2 v4 st = some res) : At p l e (rmK 2) s m args below meth c D G ad (MQI D G ad below args s res) 5 st [(0, .ref (ad 130)), (1, .int v1), (2, .int v2), (4, .int v4)] 96 [] := by
  obtain ⟨hx, hb, hml, hown, hts, hr, hlk, hK, had, hSt⟩ := id C
  intro H locs ls hl hP hS
  unfold fX11_behind_s96 at hf
  refine lv_iload hx hb dX11_behind_96 (lv_at hl 3 rfl) ?_
  refine lv_bipush (v := 109) hx hb dX11_behind_98 (by decide) ?_
  refine lv_icmp_eq (tgt := 110) hx hb dX11_behind_100 (by decide) (fun q => ?_) (fun q => ?_)
  · exact wX11_behind_s110 C n v1 v4 st res (it hf q) H locs ls (lv_sub hl [0, 1, 3] rfl) hP hS
  · exact wX11_behind_s103 C n v1 v2 v4 st res (ie hf q) H locs ls (lv_sub hl [0, 1, 2, 3] rfl) hP hS
def fX11_behind_s88 (n : Nat)   (v1 : Int32) (v2 : Int32) (k0 : Int32) (st : St) : Option (Int32 × St) := if v2 = 44 then fX11_behind_s96 n v1 v2 k0 st else fX11_behind_s144 n v1 v2 k0 st
set_option maxHeartbeats 4000000 in
set_option maxRecDepth 100000 in
theorem wX11_behind_s88 (C : Cx p s m args meth c cX11_behind 5 wsL_law RX11 (some .int) D G ad) (n : Nat)   (v1 : Int32) (v2 : Int32) (k0 : Int32)   (st : St) (res : (Int32 × St))  (hf : fX11_behind_s88 n   v1 v2 k0 st = some res) : At p l e (rmK 2) s m args below meth c D G ad (MQI D G ad below args s res) 5 st [(0, .ref (ad 130)), (1, .int v1), (2, .int v2)] 88 [.int k0] := by
  obtain ⟨hx, hb, hml, hown, hts, hr, hlk, hK, had, hSt⟩ := id C
  intro H locs ls hl hP hS
  unfold fX11_behind_s88 at hf
  refine lv_istore (lv' := [(4, .int k0), (0, .ref (ad 130)), (1, .int v1), (2, .int v2)]) hx hb dX11_behind_88 hl (by decide) rfl (fun ls hl => ?_)
  refine lv_iload_n hx hb dX11_behind_90 rfl (lv_at hl 3 rfl) ?_
  refine lv_bipush (v := 44) hx hb dX11_behind_91 (by decide) ?_
  refine lv_icmp_ne (tgt := 144) hx hb dX11_behind_93 (by decide) (fun q => ?_) (fun q => ?_)
  · exact wX11_behind_s144 C n v1 v2 k0 st res (ie hf q) H locs ls (lv_sub hl [1, 2, 3, 0] rfl) hP hS
  · exact wX11_behind_s96 C n v1 v2 k0 st res (it hf q) H locs ls (lv_sub hl [1, 2, 3, 0] rfl) hP hS
def fX11_behind_s82 (n : Nat)   (v1 : Int32) (v2 : Int32) (v3 : Int32) (st : St) : Option (Int32 × St) := if inb v3 130 = true then (fX11_behind_s88 n v1 v2 (st.1 157 v3.toNatClampNeg) st) else none
set_option maxHeartbeats 4000000 in
set_option maxRecDepth 100000 in
theorem wX11_behind_s82 (C : Cx p s m args meth c cX11_behind 5 wsL_law RX11 (some .int) D G ad) (n : Nat)   (v1 : Int32) (v2 : Int32) (v3 : Int32)   (st : St) (res : (Int32 × St))  (hf : fX11_behind_s82 n   v1 v2 v3 st = some res) : At p l e (rmK 2) s m args below meth c D G ad (MQI D G ad below args s res) 5 st [(0, .ref (ad 130)), (1, .int v1), (2, .int v2), (3, .int v3)] 82 [] := by
  obtain ⟨hx, hb, hml, hown, hts, hr, hlk, hK, had, hSt⟩ := id C
  intro H locs ls hl hP hS
  unfold fX11_behind_s82 at hf
  refine lv_aload_n hx hb dX11_behind_82 rfl (lv_at hl 0 rfl) ?_
  refine g_getR hx hb hts inlX11 hown hK hP 130 ct_130 rfl 34 (by decide) (hts _ wm_8_4) rfl dX11_behind_83 ?_
  refine lv_iload_n hx hb dX11_behind_86 rfl (lv_at hl 3 rfl) ?_
  obtain ⟨g1, hf⟩ := gd hf
  refine g_iald hx hb hK hP 157 ct_157 g1 dX11_behind_87 ?_
  exact wX11_behind_s88 C n v1 v2 (st.1 157 v3.toNatClampNeg) st res hf H locs ls (lv_sub hl [0, 1, 2] rfl) hP hS
def fX11_behind_s78 (n : Nat)   (v1 : Int32) (v2 : Int32) (st : St) : Option (Int32 × St) := fX11_behind_s88 n v1 v2 0 st
set_option maxHeartbeats 4000000 in
set_option maxRecDepth 100000 in
theorem wX11_behind_s78 (C : Cx p s m args meth c cX11_behind 5 wsL_law RX11 (some .int) D G ad) (n : Nat)   (v1 : Int32) (v2 : Int32)   (st : St) (res : (Int32 × St))  (hf : fX11_behind_s78 n   v1 v2 st = some res) : At p l e (rmK 2) s m args below meth c D G ad (MQI D G ad below args s res) 5 st [(0, .ref (ad 130)), (1, .int v1), (2, .int v2)] 78 [] := by
  obtain ⟨hx, hb, hml, hown, hts, hr, hlk, hK, had, hSt⟩ := id C
  intro H locs ls hl hP hS
  unfold fX11_behind_s78 at hf
  refine lv_iconst (v := 0) hx hb dX11_behind_78 (by decide) ?_
  refine lv_goto (tgt := 88) hx hb dX11_behind_79 (by decide) ?_
  exact wX11_behind_s88 C n v1 v2 0 st res hf H locs ls (lv_sub hl [0, 1, 2] rfl) hP hS
def fX11_behind_s74 (n : Nat)   (v1 : Int32) (v2 : Int32) (v3 : Int32) (st : St) : Option (Int32 × St) := if 0 ≤ v3 then fX11_behind_s82 n v1 v2 v3 st else fX11_behind_s78 n v1 v2 st
set_option maxHeartbeats 4000000 in
set_option maxRecDepth 100000 in
theorem wX11_behind_s74 (C : Cx p s m args meth c cX11_behind 5 wsL_law RX11 (some .int) D G ad) (n : Nat)   (v1 : Int32) (v2 : Int32) (v3 : Int32)   (st : St) (res : (Int32 × St))  (hf : fX11_behind_s74 n   v1 v2 v3 st = some res) : At p l e (rmK 2) s m args below meth c D G ad (MQI D G ad below args s res) 5 st [(0, .ref (ad 130)), (1, .int v1), (2, .int v2), (3, .int v3)] 74 [] := by
  obtain ⟨hx, hb, hml, hown, hts, hr, hlk, hK, had, hSt⟩ := id C
  intro H locs ls hl hP hS
  unfold fX11_behind_s74 at hf
  refine lv_iload_n hx hb dX11_behind_74 rfl (lv_at hl 3 rfl) ?_
  refine lv_if_ge (tgt := 82) hx hb dX11_behind_75 (by decide) (fun q => ?_) (fun q => ?_)
  · exact wX11_behind_s82 C n v1 v2 v3 st res (it hf q) H locs ls (lv_sub hl [0, 1, 2, 3] rfl) hP hS
  · exact wX11_behind_s78 C n v1 v2 st res (ie hf q) H locs ls (lv_sub hl [0, 1, 2] rfl) hP hS
def fX11_behind_s68 (n : Nat) (K52 : Int32 → Int32 → Int32 → St → Option (Int32 × St))  (v1 : Int32) (v2 : Int32) (v3 : Int32) (st : St) : Option (Int32 × St) := K52 v1 v2 (v3 + (-1)) st
set_option maxHeartbeats 4000000 in
set_option maxRecDepth 100000 in
theorem wX11_behind_s68 (C : Cx p s m args meth c cX11_behind 5 wsL_law RX11 (some .int) D G ad) (n : Nat) (K52 : Int32 → Int32 → Int32 → St → Option (Int32 × St))  (v1 : Int32) (v2 : Int32) (v3 : Int32)   (st : St) (res : (Int32 × St)) (hK52 : ∀ (v1 : Int32) (v2 : Int32) (v3 : Int32) (st : St), K52 v1 v2 v3 st = some res → At p l e (rmK 2) s m args below meth c D G ad (MQI D G ad below args s res) 5 st [(0, .ref (ad 130)), (1, .int v1), (2, .int v2), (3, .int v3)] 52 []) (hf : fX11_behind_s68 n K52  v1 v2 v3 st = some res) : At p l e (rmK 2) s m args below meth c D G ad (MQI D G ad below args s res) 5 st [(0, .ref (ad 130)), (1, .int v1), (2, .int v2), (3, .int v3)] 68 [] := by
  obtain ⟨hx, hb, hml, hown, hts, hr, hlk, hK, had, hSt⟩ := id C
  intro H locs ls hl hP hS
  unfold fX11_behind_s68 at hf
  refine lv_iinc (v := v3 + (-1)) (lv' := [(3, .int (v3 + (-1))), (0, .ref (ad 130)), (1, .int v1), (2, .int v2)]) hx hb dX11_behind_68 hl (k := 3) rfl rfl (by decide) rfl (fun ls hl => ?_)
  refine lv_goto (tgt := 52) hx hb dX11_behind_71 (by decide) ?_
  exact hK52 v1 v2 (v3 + (-1))  st hf H locs ls (lv_sub hl [1, 2, 3, 0] rfl) hP hS
def fX11_behind_s65 (n : Nat) (K52 : Int32 → Int32 → Int32 → St → Option (Int32 × St))  (v1 : Int32) (v2 : Int32) (v3 : Int32) (k0 : Int32) (st : St) : Option (Int32 × St) := if k0 ≤ 0 then fX11_behind_s74 n v1 v2 v3 st else fX11_behind_s68 n K52 v1 v2 v3 st
set_option maxHeartbeats 4000000 in
set_option maxRecDepth 100000 in
theorem wX11_behind_s65 (C : Cx p s m args meth c cX11_behind 5 wsL_law RX11 (some .int) D G ad) (n : Nat) (K52 : Int32 → Int32 → Int32 → St → Option (Int32 × St))  (v1 : Int32) (v2 : Int32) (v3 : Int32) (k0 : Int32)   (st : St) (res : (Int32 × St)) (hK52 : ∀ (v1 : Int32) (v2 : Int32) (v3 : Int32) (st : St), K52 v1 v2 v3 st = some res → At p l e (rmK 2) s m args below meth c D G ad (MQI D G ad below args s res) 5 st [(0, .ref (ad 130)), (1, .int v1), (2, .int v2), (3, .int v3)] 52 []) (hf : fX11_behind_s65 n K52  v1 v2 v3 k0 st = some res) : At p l e (rmK 2) s m args below meth c D G ad (MQI D G ad below args s res) 5 st [(0, .ref (ad 130)), (1, .int v1), (2, .int v2), (3, .int v3)] 65 [.int k0] := by
  obtain ⟨hx, hb, hml, hown, hts, hr, hlk, hK, had, hSt⟩ := id C
  intro H locs ls hl hP hS
  unfold fX11_behind_s65 at hf
  refine lv_if_le (tgt := 74) hx hb dX11_behind_65 (by decide) (fun q => ?_) (fun q => ?_)
  · exact wX11_behind_s74 C n v1 v2 v3 st res (it hf q) H locs ls (lv_sub hl [0, 1, 2, 3] rfl) hP hS
  · exact wX11_behind_s68 C n K52 v1 v2 v3 st res hK52 (ie hf q) H locs ls (lv_sub hl [0, 1, 2, 3] rfl) hP hS
def fX11_behind_s56 (n : Nat) (K52 : Int32 → Int32 → Int32 → St → Option (Int32 × St))  (v1 : Int32) (v2 : Int32) (v3 : Int32) (st : St) : Option (Int32 × St) := if inb v3 130 = true then ((fX11_rank n (st.1 157 v3.toNatClampNeg) st).bind (fun q => fX11_behind_s65 n K52 v1 v2 v3 q.1 q.2)) else none
set_option maxHeartbeats 4000000 in
set_option maxRecDepth 100000 in
theorem wX11_behind_s56 (C : Cx p s m args meth c cX11_behind 5 wsL_law RX11 (some .int) D G ad) (n : Nat) (K52 : Int32 → Int32 → Int32 → St → Option (Int32 × St))  (v1 : Int32) (v2 : Int32) (v3 : Int32)   (st : St) (res : (Int32 × St)) (hK52 : ∀ (v1 : Int32) (v2 : Int32) (v3 : Int32) (st : St), K52 v1 v2 v3 st = some res → At p l e (rmK 2) s m args below meth c D G ad (MQI D G ad below args s res) 5 st [(0, .ref (ad 130)), (1, .int v1), (2, .int v2), (3, .int v3)] 52 []) (hf : fX11_behind_s56 n K52  v1 v2 v3 st = some res) : At p l e (rmK 2) s m args below meth c D G ad (MQI D G ad below args s res) 5 st [(0, .ref (ad 130)), (1, .int v1), (2, .int v2), (3, .int v3)] 56 [] := by
  obtain ⟨hx, hb, hml, hown, hts, hr, hlk, hK, had, hSt⟩ := id C
  intro H locs ls hl hP hS
  unfold fX11_behind_s56 at hf
  refine lv_aload_n hx hb dX11_behind_56 rfl (lv_at hl 0 rfl) ?_
  refine g_getR hx hb hts inlX11 hown hK hP 130 ct_130 rfl 34 (by decide) (hts _ wm_8_4) rfl dX11_behind_57 ?_
  refine lv_iload_n hx hb dX11_behind_60 rfl (lv_at hl 3 rfl) ?_
  obtain ⟨g1, hf⟩ := gd hf
  refine g_iald hx hb hK hP 157 ct_157 g1 dX11_behind_61 ?_
  obtain ⟨q, hq, hf⟩ := bd hf
  refine gcS_i (k := 0) (As := [.int (st.1 157 v3.toNatClampNeg)]) (rest := []) hx hb hml hown hts hK hSt hP hS hl.1 (goodS wm_31_16 wm_31_17 wm_1_5 wm_31_18) okX11_rank (Nat.le_of_ble_eq_true rfl) (Nat.le_of_ble_eq_true rfl) rfl rfl (Nat.le_of_ble_eq_true rfl) dX11_behind_62 (kX11_rank l D G ad had n  (st.1 157 v3.toNatClampNeg) st q hq) (fun H locs hP hS => ?_)
  exact wX11_behind_s65 C n K52 v1 v2 v3 q.1 q.2 res hK52 hf H locs ls (lv_sub hl [0, 1, 2, 3] rfl) hP hS
def fX11_behind_s52 (n : Nat) (K52 : Int32 → Int32 → Int32 → St → Option (Int32 × St))  (v1 : Int32) (v2 : Int32) (v3 : Int32) (st : St) : Option (Int32 × St) := if v3 < 0 then fX11_behind_s74 n v1 v2 v3 st else fX11_behind_s56 n K52 v1 v2 v3 st
set_option maxHeartbeats 4000000 in
set_option maxRecDepth 100000 in
theorem wX11_behind_s52 (C : Cx p s m args meth c cX11_behind 5 wsL_law RX11 (some .int) D G ad) (n : Nat) (K52 : Int32 → Int32 → Int32 → St → Option (Int32 × St))  (v1 : Int32) (v2 : Int32) (v3 : Int32)   (st : St) (res : (Int32 × St)) (hK52 : ∀ (v1 : Int32) (v2 : Int32) (v3 : Int32) (st : St), K52 v1 v2 v3 st = some res → At p l e (rmK 2) s m args below meth c D G ad (MQI D G ad below args s res) 5 st [(0, .ref (ad 130)), (1, .int v1), (2, .int v2), (3, .int v3)] 52 []) (hf : fX11_behind_s52 n K52  v1 v2 v3 st = some res) : At p l e (rmK 2) s m args below meth c D G ad (MQI D G ad below args s res) 5 st [(0, .ref (ad 130)), (1, .int v1), (2, .int v2), (3, .int v3)] 52 [] := by
  obtain ⟨hx, hb, hml, hown, hts, hr, hlk, hK, had, hSt⟩ := id C
  intro H locs ls hl hP hS
  unfold fX11_behind_s52 at hf
  refine lv_iload_n hx hb dX11_behind_52 rfl (lv_at hl 3 rfl) ?_
  refine lv_if_lt (tgt := 74) hx hb dX11_behind_53 (by decide) (fun q => ?_) (fun q => ?_)
  · exact wX11_behind_s74 C n v1 v2 v3 st res (it hf q) H locs ls (lv_sub hl [0, 1, 2, 3] rfl) hP hS
  · exact wX11_behind_s56 C n K52 v1 v2 v3 st res hK52 (ie hf q) H locs ls (lv_sub hl [0, 1, 2, 3] rfl) hP hS
def fX11_behind_L52 (n : Nat)   : Nat → Int32 → Int32 → Int32 → St → Option (Int32 × St)
  | 0, _, _, _, _ => none
  | k + 1, v1, v2, v3, st => fX11_behind_s52 n (fX11_behind_L52 n k)  v1 v2 v3 st
theorem wX11_behind_L52 (C : Cx p s m args meth c cX11_behind 5 wsL_law RX11 (some .int) D G ad) (n : Nat)    (res : (Int32 × St))  : ∀ (k : Nat) (v1 : Int32) (v2 : Int32) (v3 : Int32)  (st : St), fX11_behind_L52 n k v1 v2 v3 st = some res → At p l e (rmK 2) s m args below meth c D G ad (MQI D G ad below args s res) 5 st [(0, .ref (ad 130)), (1, .int v1), (2, .int v2), (3, .int v3)] 52 [] := by
  intro k
  induction k with
  | zero => intro v1 v2 v3  st h; exact absurd h (by intro q; cases q)
  | succ k ih => intro v1 v2 v3  st h; exact wX11_behind_s52 C n (fX11_behind_L52 n k)  v1 v2 v3   st res ih h
def fX11_behind_s45 (n : Nat)   (v1 : Int32) (v2 : Int32) (st : St) : Option (Int32 × St) := fX11_behind_L52 n n v1 v2 ((st.1 130 35) - 1) st
set_option maxHeartbeats 4000000 in
set_option maxRecDepth 100000 in
theorem wX11_behind_s45 (C : Cx p s m args meth c cX11_behind 5 wsL_law RX11 (some .int) D G ad) (n : Nat)   (v1 : Int32) (v2 : Int32)   (st : St) (res : (Int32 × St))  (hf : fX11_behind_s45 n   v1 v2 st = some res) : At p l e (rmK 2) s m args below meth c D G ad (MQI D G ad below args s res) 5 st [(0, .ref (ad 130)), (1, .int v1), (2, .int v2)] 45 [] := by
  obtain ⟨hx, hb, hml, hown, hts, hr, hlk, hK, had, hSt⟩ := id C
  intro H locs ls hl hP hS
  unfold fX11_behind_s45 at hf
  refine lv_aload_n hx hb dX11_behind_45 rfl (lv_at hl 0 rfl) ?_
  refine g_getI hx hb hts inlX11 hown hK hP 130 ct_130 rfl 35 (by decide) (hts _ wm_30_11) rfl dX11_behind_46 ?_
  refine lv_iconst (v := 1) hx hb dX11_behind_49 (by decide) ?_
  refine lv_isub hx hb dX11_behind_50 ?_
  refine lv_istore_n (lv' := [(3, .int ((st.1 130 35) - 1)), (0, .ref (ad 130)), (1, .int v1), (2, .int v2)]) hx hb dX11_behind_51 rfl hl (by decide) rfl (fun ls hl => ?_)
  exact wX11_behind_L52 C n res n v1 v2 ((st.1 130 35) - 1) st hf H locs ls (lv_sub hl [1, 2, 3, 0] rfl) hP hS
def fX11_behind_s41 (n : Nat)   (v1 : Int32) (st : St) : Option (Int32 × St) := some (v1 + 1, st)
set_option maxHeartbeats 4000000 in
set_option maxRecDepth 100000 in
theorem wX11_behind_s41 (C : Cx p s m args meth c cX11_behind 5 wsL_law RX11 (some .int) D G ad) (n : Nat)   (v1 : Int32)   (st : St) (res : (Int32 × St))  (hf : fX11_behind_s41 n   v1 st = some res) : At p l e (rmK 2) s m args below meth c D G ad (MQI D G ad below args s res) 5 st [(1, .int v1)] 41 [] := by
  obtain ⟨hx, hb, hml, hown, hts, hr, hlk, hK, had, hSt⟩ := id C
  intro H locs ls hl hP hS
  unfold fX11_behind_s41 at hf
  refine lv_iload_n hx hb dX11_behind_41 rfl (lv_at hl 0 rfl) ?_
  refine lv_iconst (v := 1) hx hb dX11_behind_42 (by decide) ?_
  refine lv_iadd hx hb dX11_behind_43 ?_
  exact g_iret hx hb hr hlk hP hS dX11_behind_44 hf
def fX11_behind_s31 (n : Nat)   (v1 : Int32) (st : St) : Option (Int32 × St) := fX11_behind_s41 n v1 (setI st 130 35 ((st.1 130 35) + 1))
set_option maxHeartbeats 4000000 in
set_option maxRecDepth 100000 in
theorem wX11_behind_s31 (C : Cx p s m args meth c cX11_behind 5 wsL_law RX11 (some .int) D G ad) (n : Nat)   (v1 : Int32)   (st : St) (res : (Int32 × St))  (hf : fX11_behind_s31 n   v1 st = some res) : At p l e (rmK 2) s m args below meth c D G ad (MQI D G ad below args s res) 5 st [(0, .ref (ad 130)), (1, .int v1)] 31 [] := by
  obtain ⟨hx, hb, hml, hown, hts, hr, hlk, hK, had, hSt⟩ := id C
  intro H locs ls hl hP hS
  unfold fX11_behind_s31 at hf
  refine lv_aload_n hx hb dX11_behind_31 rfl (lv_at hl 0 rfl) ?_
  refine lv_dup hx hb dX11_behind_32 rfl ?_
  refine g_getI hx hb hts inlX11 hown hK hP 130 ct_130 rfl 35 (by decide) (hts _ wm_30_11) rfl dX11_behind_33 ?_
  refine lv_iconst (v := 1) hx hb dX11_behind_36 (by decide) ?_
  refine lv_iadd hx hb dX11_behind_37 ?_
  refine g_putI hx hb hts inlX11 tyX11_ok nmX11 hown hK had hP hS 130 ct_130 rfl 35 (by decide) (hts _ wm_30_11) rfl rfl rfl rfl rfl dX11_behind_38 (fun H locs hP hS => ?_)
  exact wX11_behind_s41 C n v1 (setI st 130 35 ((st.1 130 35) + 1)) res hf H locs ls (lv_sub hl [1] rfl) hP hS
def fX11_behind_s21 (n : Nat)   (v1 : Int32) (v2 : Int32) (st : St) : Option (Int32 × St) := if inb (st.1 130 35) 130 = true then (fX11_behind_s31 n v1 (setI st 157 (st.1 130 35).toNatClampNeg v2)) else none
set_option maxHeartbeats 4000000 in
set_option maxRecDepth 100000 in
theorem wX11_behind_s21 (C : Cx p s m args meth c cX11_behind 5 wsL_law RX11 (some .int) D G ad) (n : Nat)   (v1 : Int32) (v2 : Int32)   (st : St) (res : (Int32 × St))  (hf : fX11_behind_s21 n   v1 v2 st = some res) : At p l e (rmK 2) s m args below meth c D G ad (MQI D G ad below args s res) 5 st [(0, .ref (ad 130)), (1, .int v1), (2, .int v2)] 21 [] := by
  obtain ⟨hx, hb, hml, hown, hts, hr, hlk, hK, had, hSt⟩ := id C
  intro H locs ls hl hP hS
  unfold fX11_behind_s21 at hf
  refine lv_aload_n hx hb dX11_behind_21 rfl (lv_at hl 0 rfl) ?_
  refine g_getR hx hb hts inlX11 hown hK hP 130 ct_130 rfl 34 (by decide) (hts _ wm_8_4) rfl dX11_behind_22 ?_
  refine lv_aload_n hx hb dX11_behind_25 rfl (lv_at hl 0 rfl) ?_
  refine g_getI hx hb hts inlX11 hown hK hP 130 ct_130 rfl 35 (by decide) (hts _ wm_30_11) rfl dX11_behind_26 ?_
  refine lv_iload_n hx hb dX11_behind_29 rfl (lv_at hl 2 rfl) ?_
  obtain ⟨g1, hf⟩ := gd hf
  refine g_iast hx hb hK had hP hS 157 ct_157 g1 dX11_behind_30 (fun H locs hP hS => ?_)
  exact wX11_behind_s31 C n v1 (setI st 157 (st.1 130 35).toNatClampNeg v2) res hf H locs ls (lv_sub hl [0, 1] rfl) hP hS
def fX11_behind_s18 (n : Nat)   (v1 : Int32) (v2 : Int32) (k1 : Int32) (st : St) : Option (Int32 × St) := (fX11_unwinds n k1 st).bind (fun q => fX11_behind_s21 n v1 v2 q.2)
set_option maxHeartbeats 4000000 in
set_option maxRecDepth 100000 in
theorem wX11_behind_s18 (C : Cx p s m args meth c cX11_behind 5 wsL_law RX11 (some .int) D G ad) (n : Nat)   (v1 : Int32) (v2 : Int32) (k1 : Int32)   (st : St) (res : (Int32 × St))  (hf : fX11_behind_s18 n   v1 v2 k1 st = some res) : At p l e (rmK 2) s m args below meth c D G ad (MQI D G ad below args s res) 5 st [(0, .ref (ad 130)), (1, .int v1), (2, .int v2)] 18 [.int k1, .ref (ad 130)] := by
  obtain ⟨hx, hb, hml, hown, hts, hr, hlk, hK, had, hSt⟩ := id C
  intro H locs ls hl hP hS
  unfold fX11_behind_s18 at hf
  obtain ⟨q, hq, hf⟩ := bd hf
  refine gcV_v (k := 1) (o := 130) (As := [.int k1]) (rest := []) hx hb hml hown hts hK hSt hP hS hl.1 (goodV wm_31_19 wm_31_20 wm_31_21 wm_1_5 wm_31_22) okX11_unwinds ct_130 rfl rfl (Nat.le_of_ble_eq_true rfl) (Nat.le_of_ble_eq_true rfl) rfl rfl (Nat.le_of_ble_eq_true rfl) dX11_behind_18 (kX11_unwinds l D G ad had n  k1 st q hq) (fun H locs hP hS => ?_)
  exact wX11_behind_s21 C n v1 v2 q.2 res hf H locs ls (lv_sub hl [0, 1, 2] rfl) hP hS
def fX11_behind_s13 (n : Nat)   (v1 : Int32) (v2 : Int32) (st : St) : Option (Int32 × St) := (fX11_rank n v2 st).bind (fun q => fX11_behind_s18 n v1 v2 q.1 q.2)
set_option maxHeartbeats 4000000 in
set_option maxRecDepth 100000 in
theorem wX11_behind_s13 (C : Cx p s m args meth c cX11_behind 5 wsL_law RX11 (some .int) D G ad) (n : Nat)   (v1 : Int32) (v2 : Int32)   (st : St) (res : (Int32 × St))  (hf : fX11_behind_s13 n   v1 v2 st = some res) : At p l e (rmK 2) s m args below meth c D G ad (MQI D G ad below args s res) 5 st [(0, .ref (ad 130)), (1, .int v1), (2, .int v2)] 13 [] := by
  obtain ⟨hx, hb, hml, hown, hts, hr, hlk, hK, had, hSt⟩ := id C
  intro H locs ls hl hP hS
  unfold fX11_behind_s13 at hf
  refine lv_aload_n hx hb dX11_behind_13 rfl (lv_at hl 0 rfl) ?_
  refine lv_iload_n hx hb dX11_behind_14 rfl (lv_at hl 2 rfl) ?_
  obtain ⟨q, hq, hf⟩ := bd hf
  refine gcS_i (k := 0) (As := [.int v2]) (rest := [.ref (ad 130)]) hx hb hml hown hts hK hSt hP hS hl.1 (goodS wm_31_16 wm_31_17 wm_1_5 wm_31_18) okX11_rank (Nat.le_of_ble_eq_true rfl) (Nat.le_of_ble_eq_true rfl) rfl rfl (Nat.le_of_ble_eq_true rfl) dX11_behind_15 (kX11_rank l D G ad had n  v2 st q hq) (fun H locs hP hS => ?_)
  exact wX11_behind_s18 C n v1 v2 q.1 q.2 res hf H locs ls (lv_sub hl [0, 1, 2] rfl) hP hS
def fX11_behind_s10 (n : Nat)   (v1 : Int32) (v2 : Int32) (k0 : Int32) (st : St) : Option (Int32 × St) := if k0 ≤ 0 then fX11_behind_s45 n v1 v2 st else fX11_behind_s13 n v1 v2 st
set_option maxHeartbeats 4000000 in
set_option maxRecDepth 100000 in
theorem wX11_behind_s10 (C : Cx p s m args meth c cX11_behind 5 wsL_law RX11 (some .int) D G ad) (n : Nat)   (v1 : Int32) (v2 : Int32) (k0 : Int32)   (st : St) (res : (Int32 × St))  (hf : fX11_behind_s10 n   v1 v2 k0 st = some res) : At p l e (rmK 2) s m args below meth c D G ad (MQI D G ad below args s res) 5 st [(0, .ref (ad 130)), (1, .int v1), (2, .int v2)] 10 [.int k0] := by
  obtain ⟨hx, hb, hml, hown, hts, hr, hlk, hK, had, hSt⟩ := id C
  intro H locs ls hl hP hS
  unfold fX11_behind_s10 at hf
  refine lv_if_le (tgt := 45) hx hb dX11_behind_10 (by decide) (fun q => ?_) (fun q => ?_)
  · exact wX11_behind_s45 C n v1 v2 st res (it hf q) H locs ls (lv_sub hl [0, 1, 2] rfl) hP hS
  · exact wX11_behind_s13 C n v1 v2 st res (ie hf q) H locs ls (lv_sub hl [0, 1, 2] rfl) hP hS
def fX11_behind_s5 (n : Nat)   (v1 : Int32) (k0 : Int32) (st : St) : Option (Int32 × St) := (fX11_rank n k0 st).bind (fun q => fX11_behind_s10 n v1 k0 q.1 q.2)
set_option maxHeartbeats 4000000 in
set_option maxRecDepth 100000 in
theorem wX11_behind_s5 (C : Cx p s m args meth c cX11_behind 5 wsL_law RX11 (some .int) D G ad) (n : Nat)   (v1 : Int32) (k0 : Int32)   (st : St) (res : (Int32 × St))  (hf : fX11_behind_s5 n   v1 k0 st = some res) : At p l e (rmK 2) s m args below meth c D G ad (MQI D G ad below args s res) 5 st [(0, .ref (ad 130)), (1, .int v1)] 5 [.int k0] := by
  obtain ⟨hx, hb, hml, hown, hts, hr, hlk, hK, had, hSt⟩ := id C
  intro H locs ls hl hP hS
  unfold fX11_behind_s5 at hf
  refine lv_istore_n (lv' := [(2, .int k0), (0, .ref (ad 130)), (1, .int v1)]) hx hb dX11_behind_5 rfl hl (by decide) rfl (fun ls hl => ?_)
  refine lv_iload_n hx hb dX11_behind_6 rfl (lv_at hl 0 rfl) ?_
  obtain ⟨q, hq, hf⟩ := bd hf
  refine gcS_i (k := 0) (As := [.int k0]) (rest := []) hx hb hml hown hts hK hSt hP hS hl.1 (goodS wm_31_16 wm_31_17 wm_1_5 wm_31_18) okX11_rank (Nat.le_of_ble_eq_true rfl) (Nat.le_of_ble_eq_true rfl) rfl rfl (Nat.le_of_ble_eq_true rfl) dX11_behind_7 (kX11_rank l D G ad had n  k0 st q hq) (fun H locs hP hS => ?_)
  exact wX11_behind_s10 C n v1 k0 q.1 q.2 res hf H locs ls (lv_sub hl [1, 2, 0] rfl) hP hS
def fX11_behind_s0 (n : Nat)   (v1 : Int32) (st : St) : Option (Int32 × St) := (fX11_byteAt n v1 st).bind (fun q => fX11_behind_s5 n v1 q.1 q.2)
set_option maxHeartbeats 4000000 in
set_option maxRecDepth 100000 in
theorem wX11_behind_s0 (C : Cx p s m args meth c cX11_behind 5 wsL_law RX11 (some .int) D G ad) (n : Nat)   (v1 : Int32)   (st : St) (res : (Int32 × St))  (hf : fX11_behind_s0 n   v1 st = some res) : At p l e (rmK 2) s m args below meth c D G ad (MQI D G ad below args s res) 5 st [(0, .ref (ad 130)), (1, .int v1)] 0 [] := by
  obtain ⟨hx, hb, hml, hown, hts, hr, hlk, hK, had, hSt⟩ := id C
  intro H locs ls hl hP hS
  unfold fX11_behind_s0 at hf
  refine lv_aload_n hx hb dX11_behind_0 rfl (lv_at hl 0 rfl) ?_
  refine lv_iload_n hx hb dX11_behind_1 rfl (lv_at hl 1 rfl) ?_
  obtain ⟨q, hq, hf⟩ := bd hf
  refine gcV_i (k := 0) (o := 130) (As := [.int v1]) (rest := []) hx hb hml hown hts hK hSt hP hS hl.1 (goodV wm_30_20 wm_30_21 wm_30_22 wm_1_5 wm_30_23) okX11_byteAt ct_130 rfl rfl (Nat.le_of_ble_eq_true rfl) (Nat.le_of_ble_eq_true rfl) rfl rfl (Nat.le_of_ble_eq_true rfl) dX11_behind_2 (kX11_byteAt l D G ad had n  v1 st q hq) (fun H locs hP hS => ?_)
  exact wX11_behind_s5 C n v1 q.1 q.2 res hf H locs ls (lv_sub hl [0, 1] rfl) hP hS
def fX11_behind (n : Nat)  (a1 : Int32) (st : St) : Option (Int32 × St) := fX11_behind_s0 n a1 st
theorem okX11_behind : okY yX11_behind RX11 1 := by unfold okY; decide +kernel
end
set_option maxRecDepth 100000 in
theorem kX11_behind (l : Launch) (D : va_G) (G : G3) (ad : Nat → Nat) (had : Adr ad) (n : Nat)   (a1 : Int32) (st : St) (res : (Int32 × St)) (hf : fX11_behind n  a1 st = some res) {sz : Nat} : CtI l yX11_behind (wsU yX11_behind cX11_behind 5 (some .int)) (rmK 2) D G ad sz [.ref (ad 130), .int a1] st res := by
  refine Met.ofW (cc := cX11_behind) (maxL := 5) (ret := (some .int)) (by decide) rfl ?_
  intro p e s m args below meth c s₁ B hml hv
  obtain ⟨rfl, hsz, hP, hK, hSt⟩ := hv
  have hts := atoms_spec (ws := wsU yX11_behind cX11_behind 5 (some .int)) B.pre
  have C : Cx p s m _ meth c cX11_behind 5 wsL_law RX11 (some .int) D G ad := ⟨B.exec, B.bytes, hml, findClass_of_methodNamed B.named, fun w h => hts w (List.mem_cons_of_mem _ h), B.returns, B.notSynchronized, hK, had, hSt⟩
  subst hsz
  have hl := lv_entry ([.ref (ad 130), .int a1]) (n := 5) (Nat.le_of_ble_eq_true rfl)
  rw [lg_entry_eq]
  generalize (lg_sl ([.ref (ad 130), .int a1]) ++ List.replicate (5 - (lg_sl ([.ref (ad 130), .int a1])).length) Slot.unset).toArray = ls at hl ⊢
  exact wX11_behind_s0 C n  a1   st res hf s.heap [] ls (lv_sub hl [0, 1] rfl) hP va_S.rf
section
variable {p : Program} {l : Launch} {e : Env} {s : State} {m : MethodId} {args : Array Value} {below : List Frame} {meth : Method} {c : Code} {D : va_G} {G : G3} {ad : Nat → Nat}
def fX11_reads_s120 (n : Nat) (K19 : Int32 → Int32 → St → Option (Int32 × St))  (v3 : Int32) (k0 : Int32) (st : St) : Option (Int32 × St) := K19 v3 k0 st
set_option maxHeartbeats 4000000 in
set_option maxRecDepth 100000 in
theorem wX11_reads_s120 (C : Cx p s m args meth c cX11_reads 6 wsL_law RX11 (some .int) D G ad) (n : Nat) (K19 : Int32 → Int32 → St → Option (Int32 × St))  (v3 : Int32) (k0 : Int32)   (st : St) (res : (Int32 × St)) (hK19 : ∀ (v1 : Int32) (v2 : Int32) (st : St), K19 v1 v2 st = some res → At p l e (rmK 3) s m args below meth c D G ad (MQI D G ad below args s res) 6 st [(0, .ref (ad 130)), (1, .int v1), (2, .int v2)] 19 []) (hf : fX11_reads_s120 n K19  v3 k0 st = some res) : At p l e (rmK 3) s m args below meth c D G ad (MQI D G ad below args s res) 6 st [(0, .ref (ad 130)), (3, .int v3)] 120 [.int k0] := by
  obtain ⟨hx, hb, hml, hown, hts, hr, hlk, hK, had, hSt⟩ := id C
  intro H locs ls hl hP hS
  unfold fX11_reads_s120 at hf
  refine lv_istore_n (lv' := [(2, .int k0), (0, .ref (ad 130)), (3, .int v3)]) hx hb dX11_reads_120 rfl hl (by decide) rfl (fun ls hl => ?_)
  refine lv_iload_n hx hb dX11_reads_121 rfl (lv_at hl 2 rfl) ?_
  refine lv_istore_n (lv' := [(1, .int v3), (2, .int k0), (0, .ref (ad 130)), (3, .int v3)]) hx hb dX11_reads_122 rfl hl (by decide) rfl (fun ls hl => ?_)
  refine lv_goto (tgt := 19) hx hb dX11_reads_123 (by decide) ?_
  exact hK19 v3 k0  st hf H locs ls (lv_sub hl [2, 0, 1] rfl) hP hS
def fX11_reads_s119 (n : Nat) (K19 : Int32 → Int32 → St → Option (Int32 × St))  (v3 : Int32) (st : St) : Option (Int32 × St) := fX11_reads_s120 n K19 v3 0 st
set_option maxHeartbeats 4000000 in
set_option maxRecDepth 100000 in
theorem wX11_reads_s119 (C : Cx p s m args meth c cX11_reads 6 wsL_law RX11 (some .int) D G ad) (n : Nat) (K19 : Int32 → Int32 → St → Option (Int32 × St))  (v3 : Int32)   (st : St) (res : (Int32 × St)) (hK19 : ∀ (v1 : Int32) (v2 : Int32) (st : St), K19 v1 v2 st = some res → At p l e (rmK 3) s m args below meth c D G ad (MQI D G ad below args s res) 6 st [(0, .ref (ad 130)), (1, .int v1), (2, .int v2)] 19 []) (hf : fX11_reads_s119 n K19  v3 st = some res) : At p l e (rmK 3) s m args below meth c D G ad (MQI D G ad below args s res) 6 st [(0, .ref (ad 130)), (3, .int v3)] 119 [] := by
  obtain ⟨hx, hb, hml, hown, hts, hr, hlk, hK, had, hSt⟩ := id C
  intro H locs ls hl hP hS
  unfold fX11_reads_s119 at hf
  refine lv_iconst (v := 0) hx hb dX11_reads_119 (by decide) ?_
  exact wX11_reads_s120 C n K19 v3 0 st res hK19 hf H locs ls (lv_sub hl [0, 1] rfl) hP hS
def fX11_reads_s115 (n : Nat) (K19 : Int32 → Int32 → St → Option (Int32 × St))  (v3 : Int32) (st : St) : Option (Int32 × St) := fX11_reads_s120 n K19 v3 1 st
set_option maxHeartbeats 4000000 in
set_option maxRecDepth 100000 in
theorem wX11_reads_s115 (C : Cx p s m args meth c cX11_reads 6 wsL_law RX11 (some .int) D G ad) (n : Nat) (K19 : Int32 → Int32 → St → Option (Int32 × St))  (v3 : Int32)   (st : St) (res : (Int32 × St)) (hK19 : ∀ (v1 : Int32) (v2 : Int32) (st : St), K19 v1 v2 st = some res → At p l e (rmK 3) s m args below meth c D G ad (MQI D G ad below args s res) 6 st [(0, .ref (ad 130)), (1, .int v1), (2, .int v2)] 19 []) (hf : fX11_reads_s115 n K19  v3 st = some res) : At p l e (rmK 3) s m args below meth c D G ad (MQI D G ad below args s res) 6 st [(0, .ref (ad 130)), (3, .int v3)] 115 [] := by
  obtain ⟨hx, hb, hml, hown, hts, hr, hlk, hK, had, hSt⟩ := id C
  intro H locs ls hl hP hS
  unfold fX11_reads_s115 at hf
  refine lv_iconst (v := 1) hx hb dX11_reads_115 (by decide) ?_
  refine lv_goto (tgt := 120) hx hb dX11_reads_116 (by decide) ?_
  exact wX11_reads_s120 C n K19 v3 1 st res hK19 hf H locs ls (lv_sub hl [0, 1] rfl) hP hS
def fX11_reads_s110 (n : Nat) (K19 : Int32 → Int32 → St → Option (Int32 × St))  (v3 : Int32) (v4 : Int32) (st : St) : Option (Int32 × St) := if v4 = 0 then fX11_reads_s115 n K19 v3 st else fX11_reads_s119 n K19 v3 st
set_option maxHeartbeats 4000000 in
set_option maxRecDepth 100000 in
theorem wX11_reads_s110 (C : Cx p s m args meth c cX11_reads 6 wsL_law RX11 (some .int) D G ad) (n : Nat) (K19 : Int32 → Int32 → St → Option (Int32 × St))  (v3 : Int32) (v4 : Int32)   (st : St) (res : (Int32 × St)) (hK19 : ∀ (v1 : Int32) (v2 : Int32) (st : St), K19 v1 v2 st = some res → At p l e (rmK 3) s m args below meth c D G ad (MQI D G ad below args s res) 6 st [(0, .ref (ad 130)), (1, .int v1), (2, .int v2)] 19 []) (hf : fX11_reads_s110 n K19  v3 v4 st = some res) : At p l e (rmK 3) s m args below meth c D G ad (MQI D G ad below args s res) 6 st [(0, .ref (ad 130)), (3, .int v3), (4, .int v4)] 110 [] := by
  obtain ⟨hx, hb, hml, hown, hts, hr, hlk, hK, had, hSt⟩ := id C
  intro H locs ls hl hP hS
  unfold fX11_reads_s110 at hf
  refine lv_iload hx hb dX11_reads_110 (lv_at hl 2 rfl) ?_
  refine lv_if_ne (tgt := 119) hx hb dX11_reads_112 (by decide) (fun q => ?_) (fun q => ?_)
  · exact wX11_reads_s119 C n K19 v3 st res hK19 (ie hf q) H locs ls (lv_sub hl [0, 1] rfl) hP hS
  · exact wX11_reads_s115 C n K19 v3 st res hK19 (it hf q) H locs ls (lv_sub hl [0, 1] rfl) hP hS
def fX11_reads_s105 (n : Nat) (K19 : Int32 → Int32 → St → Option (Int32 × St))  (v3 : Int32) (v5 : Int32) (st : St) : Option (Int32 × St) := fX11_reads_s120 n K19 v3 v5 st
set_option maxHeartbeats 4000000 in
set_option maxRecDepth 100000 in
theorem wX11_reads_s105 (C : Cx p s m args meth c cX11_reads 6 wsL_law RX11 (some .int) D G ad) (n : Nat) (K19 : Int32 → Int32 → St → Option (Int32 × St))  (v3 : Int32) (v5 : Int32)   (st : St) (res : (Int32 × St)) (hK19 : ∀ (v1 : Int32) (v2 : Int32) (st : St), K19 v1 v2 st = some res → At p l e (rmK 3) s m args below meth c D G ad (MQI D G ad below args s res) 6 st [(0, .ref (ad 130)), (1, .int v1), (2, .int v2)] 19 []) (hf : fX11_reads_s105 n K19  v3 v5 st = some res) : At p l e (rmK 3) s m args below meth c D G ad (MQI D G ad below args s res) 6 st [(0, .ref (ad 130)), (3, .int v3), (5, .int v5)] 105 [] := by
  obtain ⟨hx, hb, hml, hown, hts, hr, hlk, hK, had, hSt⟩ := id C
  intro H locs ls hl hP hS
  unfold fX11_reads_s105 at hf
  refine lv_iload hx hb dX11_reads_105 (lv_at hl 2 rfl) ?_
  refine lv_goto (tgt := 120) hx hb dX11_reads_107 (by decide) ?_
  exact wX11_reads_s120 C n K19 v3 v5 st res hK19 hf H locs ls (lv_sub hl [0, 1] rfl) hP hS
def fX11_reads_s99 (n : Nat) (K19 : Int32 → Int32 → St → Option (Int32 × St))  (v2 : Int32) (v3 : Int32) (v4 : Int32) (k0 : Int32) (st : St) : Option (Int32 × St) := if v2 = 0 then fX11_reads_s110 n K19 v3 v4 st else fX11_reads_s105 n K19 v3 k0 st
set_option maxHeartbeats 4000000 in
set_option maxRecDepth 100000 in
theorem wX11_reads_s99 (C : Cx p s m args meth c cX11_reads 6 wsL_law RX11 (some .int) D G ad) (n : Nat) (K19 : Int32 → Int32 → St → Option (Int32 × St))  (v2 : Int32) (v3 : Int32) (v4 : Int32) (k0 : Int32)   (st : St) (res : (Int32 × St)) (hK19 : ∀ (v1 : Int32) (v2 : Int32) (st : St), K19 v1 v2 st = some res → At p l e (rmK 3) s m args below meth c D G ad (MQI D G ad below args s res) 6 st [(0, .ref (ad 130)), (1, .int v1), (2, .int v2)] 19 []) (hf : fX11_reads_s99 n K19  v2 v3 v4 k0 st = some res) : At p l e (rmK 3) s m args below meth c D G ad (MQI D G ad below args s res) 6 st [(0, .ref (ad 130)), (2, .int v2), (3, .int v3), (4, .int v4)] 99 [.int k0] := by
  obtain ⟨hx, hb, hml, hown, hts, hr, hlk, hK, had, hSt⟩ := id C
  intro H locs ls hl hP hS
  unfold fX11_reads_s99 at hf
  refine lv_istore (lv' := [(5, .int k0), (0, .ref (ad 130)), (2, .int v2), (3, .int v3), (4, .int v4)]) hx hb dX11_reads_99 hl (by decide) rfl (fun ls hl => ?_)
  refine lv_iload_n hx hb dX11_reads_101 rfl (lv_at hl 2 rfl) ?_
  refine lv_if_eq (tgt := 110) hx hb dX11_reads_102 (by decide) (fun q => ?_) (fun q => ?_)
  · exact wX11_reads_s110 C n K19 v3 v4 st res hK19 (it hf q) H locs ls (lv_sub hl [1, 3, 4] rfl) hP hS
  · exact wX11_reads_s105 C n K19 v3 k0 st res hK19 (ie hf q) H locs ls (lv_sub hl [1, 3, 0] rfl) hP hS
def fX11_reads_s98 (n : Nat) (K19 : Int32 → Int32 → St → Option (Int32 × St))  (v2 : Int32) (v3 : Int32) (v4 : Int32) (st : St) : Option (Int32 × St) := fX11_reads_s99 n K19 v2 v3 v4 0 st
set_option maxHeartbeats 4000000 in
set_option maxRecDepth 100000 in
theorem wX11_reads_s98 (C : Cx p s m args meth c cX11_reads 6 wsL_law RX11 (some .int) D G ad) (n : Nat) (K19 : Int32 → Int32 → St → Option (Int32 × St))  (v2 : Int32) (v3 : Int32) (v4 : Int32)   (st : St) (res : (Int32 × St)) (hK19 : ∀ (v1 : Int32) (v2 : Int32) (st : St), K19 v1 v2 st = some res → At p l e (rmK 3) s m args below meth c D G ad (MQI D G ad below args s res) 6 st [(0, .ref (ad 130)), (1, .int v1), (2, .int v2)] 19 []) (hf : fX11_reads_s98 n K19  v2 v3 v4 st = some res) : At p l e (rmK 3) s m args below meth c D G ad (MQI D G ad below args s res) 6 st [(0, .ref (ad 130)), (2, .int v2), (3, .int v3), (4, .int v4)] 98 [] := by
  obtain ⟨hx, hb, hml, hown, hts, hr, hlk, hK, had, hSt⟩ := id C
  intro H locs ls hl hP hS
  unfold fX11_reads_s98 at hf
  refine lv_iconst (v := 0) hx hb dX11_reads_98 (by decide) ?_
  exact wX11_reads_s99 C n K19 v2 v3 v4 0 st res hK19 hf H locs ls (lv_sub hl [0, 1, 2, 3] rfl) hP hS
def fX11_reads_s94 (n : Nat) (K19 : Int32 → Int32 → St → Option (Int32 × St))  (v2 : Int32) (v3 : Int32) (v4 : Int32) (st : St) : Option (Int32 × St) := fX11_reads_s99 n K19 v2 v3 v4 1 st
set_option maxHeartbeats 4000000 in
set_option maxRecDepth 100000 in
theorem wX11_reads_s94 (C : Cx p s m args meth c cX11_reads 6 wsL_law RX11 (some .int) D G ad) (n : Nat) (K19 : Int32 → Int32 → St → Option (Int32 × St))  (v2 : Int32) (v3 : Int32) (v4 : Int32)   (st : St) (res : (Int32 × St)) (hK19 : ∀ (v1 : Int32) (v2 : Int32) (st : St), K19 v1 v2 st = some res → At p l e (rmK 3) s m args below meth c D G ad (MQI D G ad below args s res) 6 st [(0, .ref (ad 130)), (1, .int v1), (2, .int v2)] 19 []) (hf : fX11_reads_s94 n K19  v2 v3 v4 st = some res) : At p l e (rmK 3) s m args below meth c D G ad (MQI D G ad below args s res) 6 st [(0, .ref (ad 130)), (2, .int v2), (3, .int v3), (4, .int v4)] 94 [] := by
  obtain ⟨hx, hb, hml, hown, hts, hr, hlk, hK, had, hSt⟩ := id C
  intro H locs ls hl hP hS
  unfold fX11_reads_s94 at hf
  refine lv_iconst (v := 1) hx hb dX11_reads_94 (by decide) ?_
  refine lv_goto (tgt := 99) hx hb dX11_reads_95 (by decide) ?_
  exact wX11_reads_s99 C n K19 v2 v3 v4 1 st res hK19 hf H locs ls (lv_sub hl [0, 1, 2, 3] rfl) hP hS
def fX11_reads_s89 (n : Nat) (K19 : Int32 → Int32 → St → Option (Int32 × St))  (v2 : Int32) (v3 : Int32) (v4 : Int32) (k0 : Int32) (st : St) : Option (Int32 × St) := if k0 = 40 then fX11_reads_s94 n K19 v2 v3 v4 st else fX11_reads_s98 n K19 v2 v3 v4 st
set_option maxHeartbeats 4000000 in
set_option maxRecDepth 100000 in
theorem wX11_reads_s89 (C : Cx p s m args meth c cX11_reads 6 wsL_law RX11 (some .int) D G ad) (n : Nat) (K19 : Int32 → Int32 → St → Option (Int32 × St))  (v2 : Int32) (v3 : Int32) (v4 : Int32) (k0 : Int32)   (st : St) (res : (Int32 × St)) (hK19 : ∀ (v1 : Int32) (v2 : Int32) (st : St), K19 v1 v2 st = some res → At p l e (rmK 3) s m args below meth c D G ad (MQI D G ad below args s res) 6 st [(0, .ref (ad 130)), (1, .int v1), (2, .int v2)] 19 []) (hf : fX11_reads_s89 n K19  v2 v3 v4 k0 st = some res) : At p l e (rmK 3) s m args below meth c D G ad (MQI D G ad below args s res) 6 st [(0, .ref (ad 130)), (2, .int v2), (3, .int v3), (4, .int v4)] 89 [.int k0] := by
  obtain ⟨hx, hb, hml, hown, hts, hr, hlk, hK, had, hSt⟩ := id C
  intro H locs ls hl hP hS
  unfold fX11_reads_s89 at hf
  refine lv_bipush (v := 40) hx hb dX11_reads_89 (by decide) ?_
  refine lv_icmp_ne (tgt := 98) hx hb dX11_reads_91 (by decide) (fun q => ?_) (fun q => ?_)
  · exact wX11_reads_s98 C n K19 v2 v3 v4 st res hK19 (ie hf q) H locs ls (lv_sub hl [0, 1, 2, 3] rfl) hP hS
  · exact wX11_reads_s94 C n K19 v2 v3 v4 st res hK19 (it hf q) H locs ls (lv_sub hl [0, 1, 2, 3] rfl) hP hS
def fX11_reads_s82 (n : Nat) (K19 : Int32 → Int32 → St → Option (Int32 × St))  (v2 : Int32) (v3 : Int32) (v4 : Int32) (st : St) : Option (Int32 × St) := (fX11_byteAt n (v3 - 1) st).bind (fun q => fX11_reads_s89 n K19 v2 v3 v4 q.1 q.2)
set_option maxHeartbeats 4000000 in
set_option maxRecDepth 100000 in
theorem wX11_reads_s82 (C : Cx p s m args meth c cX11_reads 6 wsL_law RX11 (some .int) D G ad) (n : Nat) (K19 : Int32 → Int32 → St → Option (Int32 × St))  (v2 : Int32) (v3 : Int32) (v4 : Int32)   (st : St) (res : (Int32 × St)) (hK19 : ∀ (v1 : Int32) (v2 : Int32) (st : St), K19 v1 v2 st = some res → At p l e (rmK 3) s m args below meth c D G ad (MQI D G ad below args s res) 6 st [(0, .ref (ad 130)), (1, .int v1), (2, .int v2)] 19 []) (hf : fX11_reads_s82 n K19  v2 v3 v4 st = some res) : At p l e (rmK 3) s m args below meth c D G ad (MQI D G ad below args s res) 6 st [(0, .ref (ad 130)), (2, .int v2), (3, .int v3), (4, .int v4)] 82 [] := by
  obtain ⟨hx, hb, hml, hown, hts, hr, hlk, hK, had, hSt⟩ := id C
  intro H locs ls hl hP hS
  unfold fX11_reads_s82 at hf
  refine lv_aload_n hx hb dX11_reads_82 rfl (lv_at hl 0 rfl) ?_
  refine lv_iload_n hx hb dX11_reads_83 rfl (lv_at hl 2 rfl) ?_
  refine lv_iconst (v := 1) hx hb dX11_reads_84 (by decide) ?_
  refine lv_isub hx hb dX11_reads_85 ?_
  obtain ⟨q, hq, hf⟩ := bd hf
  refine gcV_i (k := 0) (o := 130) (As := [.int (v3 - 1)]) (rest := []) hx hb hml hown hts hK hSt hP hS hl.1 (goodV wm_30_20 wm_30_21 wm_30_22 wm_1_5 wm_30_23) okX11_byteAt ct_130 rfl rfl (Nat.le_of_ble_eq_true rfl) (Nat.le_of_ble_eq_true rfl) rfl rfl (Nat.le_of_ble_eq_true rfl) dX11_reads_86 (kX11_byteAt l D G ad had n  (v3 - 1) st q hq) (fun H locs hP hS => ?_)
  exact wX11_reads_s89 C n K19 v2 v3 v4 q.1 q.2 res hK19 hf H locs ls (lv_sub hl [0, 1, 2, 3] rfl) hP hS
def fX11_reads_s76 (n : Nat) (K19 : Int32 → Int32 → St → Option (Int32 × St))  (v2 : Int32) (v3 : Int32) (k0 : Int32) (st : St) : Option (Int32 × St) := if v2 = 0 then fX11_reads_s98 n K19 v2 v3 k0 st else fX11_reads_s82 n K19 v2 v3 k0 st
set_option maxHeartbeats 4000000 in
set_option maxRecDepth 100000 in
theorem wX11_reads_s76 (C : Cx p s m args meth c cX11_reads 6 wsL_law RX11 (some .int) D G ad) (n : Nat) (K19 : Int32 → Int32 → St → Option (Int32 × St))  (v2 : Int32) (v3 : Int32) (k0 : Int32)   (st : St) (res : (Int32 × St)) (hK19 : ∀ (v1 : Int32) (v2 : Int32) (st : St), K19 v1 v2 st = some res → At p l e (rmK 3) s m args below meth c D G ad (MQI D G ad below args s res) 6 st [(0, .ref (ad 130)), (1, .int v1), (2, .int v2)] 19 []) (hf : fX11_reads_s76 n K19  v2 v3 k0 st = some res) : At p l e (rmK 3) s m args below meth c D G ad (MQI D G ad below args s res) 6 st [(0, .ref (ad 130)), (2, .int v2), (3, .int v3)] 76 [.int k0] := by
  obtain ⟨hx, hb, hml, hown, hts, hr, hlk, hK, had, hSt⟩ := id C
  intro H locs ls hl hP hS
  unfold fX11_reads_s76 at hf
  refine lv_istore (lv' := [(4, .int k0), (0, .ref (ad 130)), (2, .int v2), (3, .int v3)]) hx hb dX11_reads_76 hl (by decide) rfl (fun ls hl => ?_)
  refine lv_iload_n hx hb dX11_reads_78 rfl (lv_at hl 2 rfl) ?_
  refine lv_if_eq (tgt := 98) hx hb dX11_reads_79 (by decide) (fun q => ?_) (fun q => ?_)
  · exact wX11_reads_s98 C n K19 v2 v3 k0 st res hK19 (it hf q) H locs ls (lv_sub hl [1, 2, 3, 0] rfl) hP hS
  · exact wX11_reads_s82 C n K19 v2 v3 k0 st res hK19 (ie hf q) H locs ls (lv_sub hl [1, 2, 3, 0] rfl) hP hS
def fX11_reads_s75 (n : Nat) (K19 : Int32 → Int32 → St → Option (Int32 × St))  (v2 : Int32) (v3 : Int32) (st : St) : Option (Int32 × St) := fX11_reads_s76 n K19 v2 v3 0 st
set_option maxHeartbeats 4000000 in
set_option maxRecDepth 100000 in
theorem wX11_reads_s75 (C : Cx p s m args meth c cX11_reads 6 wsL_law RX11 (some .int) D G ad) (n : Nat) (K19 : Int32 → Int32 → St → Option (Int32 × St))  (v2 : Int32) (v3 : Int32)   (st : St) (res : (Int32 × St)) (hK19 : ∀ (v1 : Int32) (v2 : Int32) (st : St), K19 v1 v2 st = some res → At p l e (rmK 3) s m args below meth c D G ad (MQI D G ad below args s res) 6 st [(0, .ref (ad 130)), (1, .int v1), (2, .int v2)] 19 []) (hf : fX11_reads_s75 n K19  v2 v3 st = some res) : At p l e (rmK 3) s m args below meth c D G ad (MQI D G ad below args s res) 6 st [(0, .ref (ad 130)), (2, .int v2), (3, .int v3)] 75 [] := by
  obtain ⟨hx, hb, hml, hown, hts, hr, hlk, hK, had, hSt⟩ := id C
  intro H locs ls hl hP hS
  unfold fX11_reads_s75 at hf
  refine lv_iconst (v := 0) hx hb dX11_reads_75 (by decide) ?_
  exact wX11_reads_s76 C n K19 v2 v3 0 st res hK19 hf H locs ls (lv_sub hl [0, 1, 2] rfl) hP hS
def fX11_reads_s71 (n : Nat) (K19 : Int32 → Int32 → St → Option (Int32 × St))  (v2 : Int32) (v3 : Int32) (st : St) : Option (Int32 × St) := fX11_reads_s76 n K19 v2 v3 1 st
set_option maxHeartbeats 4000000 in
set_option maxRecDepth 100000 in
theorem wX11_reads_s71 (C : Cx p s m args meth c cX11_reads 6 wsL_law RX11 (some .int) D G ad) (n : Nat) (K19 : Int32 → Int32 → St → Option (Int32 × St))  (v2 : Int32) (v3 : Int32)   (st : St) (res : (Int32 × St)) (hK19 : ∀ (v1 : Int32) (v2 : Int32) (st : St), K19 v1 v2 st = some res → At p l e (rmK 3) s m args below meth c D G ad (MQI D G ad below args s res) 6 st [(0, .ref (ad 130)), (1, .int v1), (2, .int v2)] 19 []) (hf : fX11_reads_s71 n K19  v2 v3 st = some res) : At p l e (rmK 3) s m args below meth c D G ad (MQI D G ad below args s res) 6 st [(0, .ref (ad 130)), (2, .int v2), (3, .int v3)] 71 [] := by
  obtain ⟨hx, hb, hml, hown, hts, hr, hlk, hK, had, hSt⟩ := id C
  intro H locs ls hl hP hS
  unfold fX11_reads_s71 at hf
  refine lv_iconst (v := 1) hx hb dX11_reads_71 (by decide) ?_
  refine lv_goto (tgt := 76) hx hb dX11_reads_72 (by decide) ?_
  exact wX11_reads_s76 C n K19 v2 v3 1 st res hK19 hf H locs ls (lv_sub hl [0, 1, 2] rfl) hP hS
def fX11_reads_s66 (n : Nat) (K19 : Int32 → Int32 → St → Option (Int32 × St))  (v2 : Int32) (v3 : Int32) (k0 : Int32) (st : St) : Option (Int32 × St) := if k0 = 41 then fX11_reads_s71 n K19 v2 v3 st else fX11_reads_s75 n K19 v2 v3 st
set_option maxHeartbeats 4000000 in
set_option maxRecDepth 100000 in
theorem wX11_reads_s66 (C : Cx p s m args meth c cX11_reads 6 wsL_law RX11 (some .int) D G ad) (n : Nat) (K19 : Int32 → Int32 → St → Option (Int32 × St))  (v2 : Int32) (v3 : Int32) (k0 : Int32)   (st : St) (res : (Int32 × St)) (hK19 : ∀ (v1 : Int32) (v2 : Int32) (st : St), K19 v1 v2 st = some res → At p l e (rmK 3) s m args below meth c D G ad (MQI D G ad below args s res) 6 st [(0, .ref (ad 130)), (1, .int v1), (2, .int v2)] 19 []) (hf : fX11_reads_s66 n K19  v2 v3 k0 st = some res) : At p l e (rmK 3) s m args below meth c D G ad (MQI D G ad below args s res) 6 st [(0, .ref (ad 130)), (2, .int v2), (3, .int v3)] 66 [.int k0] := by
  obtain ⟨hx, hb, hml, hown, hts, hr, hlk, hK, had, hSt⟩ := id C
  intro H locs ls hl hP hS
  unfold fX11_reads_s66 at hf
  refine lv_bipush (v := 41) hx hb dX11_reads_66 (by decide) ?_
  refine lv_icmp_ne (tgt := 75) hx hb dX11_reads_68 (by decide) (fun q => ?_) (fun q => ?_)
  · exact wX11_reads_s75 C n K19 v2 v3 st res hK19 (ie hf q) H locs ls (lv_sub hl [0, 1, 2] rfl) hP hS
  · exact wX11_reads_s71 C n K19 v2 v3 st res hK19 (it hf q) H locs ls (lv_sub hl [0, 1, 2] rfl) hP hS
def fX11_reads_s61 (n : Nat) (K19 : Int32 → Int32 → St → Option (Int32 × St))  (v1 : Int32) (v2 : Int32) (v3 : Int32) (st : St) : Option (Int32 × St) := (fX11_byteAt n v1 st).bind (fun q => fX11_reads_s66 n K19 v2 v3 q.1 q.2)
set_option maxHeartbeats 4000000 in
set_option maxRecDepth 100000 in
theorem wX11_reads_s61 (C : Cx p s m args meth c cX11_reads 6 wsL_law RX11 (some .int) D G ad) (n : Nat) (K19 : Int32 → Int32 → St → Option (Int32 × St))  (v1 : Int32) (v2 : Int32) (v3 : Int32)   (st : St) (res : (Int32 × St)) (hK19 : ∀ (v1 : Int32) (v2 : Int32) (st : St), K19 v1 v2 st = some res → At p l e (rmK 3) s m args below meth c D G ad (MQI D G ad below args s res) 6 st [(0, .ref (ad 130)), (1, .int v1), (2, .int v2)] 19 []) (hf : fX11_reads_s61 n K19  v1 v2 v3 st = some res) : At p l e (rmK 3) s m args below meth c D G ad (MQI D G ad below args s res) 6 st [(0, .ref (ad 130)), (1, .int v1), (2, .int v2), (3, .int v3)] 61 [] := by
  obtain ⟨hx, hb, hml, hown, hts, hr, hlk, hK, had, hSt⟩ := id C
  intro H locs ls hl hP hS
  unfold fX11_reads_s61 at hf
  refine lv_aload_n hx hb dX11_reads_61 rfl (lv_at hl 0 rfl) ?_
  refine lv_iload_n hx hb dX11_reads_62 rfl (lv_at hl 1 rfl) ?_
  obtain ⟨q, hq, hf⟩ := bd hf
  refine gcV_i (k := 0) (o := 130) (As := [.int v1]) (rest := []) hx hb hml hown hts hK hSt hP hS hl.1 (goodV wm_30_20 wm_30_21 wm_30_22 wm_1_5 wm_30_23) okX11_byteAt ct_130 rfl rfl (Nat.le_of_ble_eq_true rfl) (Nat.le_of_ble_eq_true rfl) rfl rfl (Nat.le_of_ble_eq_true rfl) dX11_reads_63 (kX11_byteAt l D G ad had n  v1 st q hq) (fun H locs hP hS => ?_)
  exact wX11_reads_s66 C n K19 v2 v3 q.1 q.2 res hK19 hf H locs ls (lv_sub hl [0, 2, 3] rfl) hP hS
def fX11_reads_s57 (n : Nat) (K19 : Int32 → Int32 → St → Option (Int32 × St))  (v1 : Int32) (v2 : Int32) (v3 : Int32) (st : St) : Option (Int32 × St) := if v2 = 0 then fX11_reads_s61 n K19 v1 v2 v3 st else fX11_reads_s75 n K19 v2 v3 st
set_option maxHeartbeats 4000000 in
set_option maxRecDepth 100000 in
theorem wX11_reads_s57 (C : Cx p s m args meth c cX11_reads 6 wsL_law RX11 (some .int) D G ad) (n : Nat) (K19 : Int32 → Int32 → St → Option (Int32 × St))  (v1 : Int32) (v2 : Int32) (v3 : Int32)   (st : St) (res : (Int32 × St)) (hK19 : ∀ (v1 : Int32) (v2 : Int32) (st : St), K19 v1 v2 st = some res → At p l e (rmK 3) s m args below meth c D G ad (MQI D G ad below args s res) 6 st [(0, .ref (ad 130)), (1, .int v1), (2, .int v2)] 19 []) (hf : fX11_reads_s57 n K19  v1 v2 v3 st = some res) : At p l e (rmK 3) s m args below meth c D G ad (MQI D G ad below args s res) 6 st [(0, .ref (ad 130)), (1, .int v1), (2, .int v2), (3, .int v3)] 57 [] := by
  obtain ⟨hx, hb, hml, hown, hts, hr, hlk, hK, had, hSt⟩ := id C
  intro H locs ls hl hP hS
  unfold fX11_reads_s57 at hf
  refine lv_iload_n hx hb dX11_reads_57 rfl (lv_at hl 2 rfl) ?_
  refine lv_if_ne (tgt := 75) hx hb dX11_reads_58 (by decide) (fun q => ?_) (fun q => ?_)
  · exact wX11_reads_s75 C n K19 v2 v3 st res hK19 (ie hf q) H locs ls (lv_sub hl [0, 2, 3] rfl) hP hS
  · exact wX11_reads_s61 C n K19 v1 v2 v3 st res hK19 (it hf q) H locs ls (lv_sub hl [0, 1, 2, 3] rfl) hP hS
def fX11_reads_s53 (n : Nat)   (v3 : Int32) (st : St) : Option (Int32 × St) := some ((-1) - v3, st)
set_option maxHeartbeats 4000000 in
set_option maxRecDepth 100000 in
theorem wX11_reads_s53 (C : Cx p s m args meth c cX11_reads 6 wsL_law RX11 (some .int) D G ad) (n : Nat)   (v3 : Int32)   (st : St) (res : (Int32 × St))  (hf : fX11_reads_s53 n   v3 st = some res) : At p l e (rmK 3) s m args below meth c D G ad (MQI D G ad below args s res) 6 st [(3, .int v3)] 53 [] := by
  obtain ⟨hx, hb, hml, hown, hts, hr, hlk, hK, had, hSt⟩ := id C
  intro H locs ls hl hP hS
  unfold fX11_reads_s53 at hf
  refine lv_iconst (v := (-1)) hx hb dX11_reads_53 (by decide) ?_
  refine lv_iload_n hx hb dX11_reads_54 rfl (lv_at hl 0 rfl) ?_
  refine lv_isub hx hb dX11_reads_55 ?_
  exact g_iret hx hb hr hlk hP hS dX11_reads_56 hf
def fX11_reads_s48 (n : Nat) (K19 : Int32 → Int32 → St → Option (Int32 × St))  (v1 : Int32) (v2 : Int32) (k0 : Int32) (st : St) : Option (Int32 × St) := if 0 ≤ k0 then fX11_reads_s57 n K19 v1 v2 k0 st else fX11_reads_s53 n k0 st
set_option maxHeartbeats 4000000 in
set_option maxRecDepth 100000 in
theorem wX11_reads_s48 (C : Cx p s m args meth c cX11_reads 6 wsL_law RX11 (some .int) D G ad) (n : Nat) (K19 : Int32 → Int32 → St → Option (Int32 × St))  (v1 : Int32) (v2 : Int32) (k0 : Int32)   (st : St) (res : (Int32 × St)) (hK19 : ∀ (v1 : Int32) (v2 : Int32) (st : St), K19 v1 v2 st = some res → At p l e (rmK 3) s m args below meth c D G ad (MQI D G ad below args s res) 6 st [(0, .ref (ad 130)), (1, .int v1), (2, .int v2)] 19 []) (hf : fX11_reads_s48 n K19  v1 v2 k0 st = some res) : At p l e (rmK 3) s m args below meth c D G ad (MQI D G ad below args s res) 6 st [(0, .ref (ad 130)), (1, .int v1), (2, .int v2)] 48 [.int k0] := by
  obtain ⟨hx, hb, hml, hown, hts, hr, hlk, hK, had, hSt⟩ := id C
  intro H locs ls hl hP hS
  unfold fX11_reads_s48 at hf
  refine lv_istore_n (lv' := [(3, .int k0), (0, .ref (ad 130)), (1, .int v1), (2, .int v2)]) hx hb dX11_reads_48 rfl hl (by decide) rfl (fun ls hl => ?_)
  refine lv_iload_n hx hb dX11_reads_49 rfl (lv_at hl 0 rfl) ?_
  refine lv_if_ge (tgt := 57) hx hb dX11_reads_50 (by decide) (fun q => ?_) (fun q => ?_)
  · exact wX11_reads_s57 C n K19 v1 v2 k0 st res hK19 (it hf q) H locs ls (lv_sub hl [1, 2, 3, 0] rfl) hP hS
  · exact wX11_reads_s53 C n k0 st res (ie hf q) H locs ls (lv_sub hl [0] rfl) hP hS
def fX11_reads_s43 (n : Nat) (K19 : Int32 → Int32 → St → Option (Int32 × St))  (v1 : Int32) (v2 : Int32) (st : St) : Option (Int32 × St) := (fX11_behind n v1 st).bind (fun q => fX11_reads_s48 n K19 v1 v2 q.1 q.2)
set_option maxHeartbeats 4000000 in
set_option maxRecDepth 100000 in
theorem wX11_reads_s43 (C : Cx p s m args meth c cX11_reads 6 wsL_law RX11 (some .int) D G ad) (n : Nat) (K19 : Int32 → Int32 → St → Option (Int32 × St))  (v1 : Int32) (v2 : Int32)   (st : St) (res : (Int32 × St)) (hK19 : ∀ (v1 : Int32) (v2 : Int32) (st : St), K19 v1 v2 st = some res → At p l e (rmK 3) s m args below meth c D G ad (MQI D G ad below args s res) 6 st [(0, .ref (ad 130)), (1, .int v1), (2, .int v2)] 19 []) (hf : fX11_reads_s43 n K19  v1 v2 st = some res) : At p l e (rmK 3) s m args below meth c D G ad (MQI D G ad below args s res) 6 st [(0, .ref (ad 130)), (1, .int v1), (2, .int v2)] 43 [] := by
  obtain ⟨hx, hb, hml, hown, hts, hr, hlk, hK, had, hSt⟩ := id C
  intro H locs ls hl hP hS
  unfold fX11_reads_s43 at hf
  refine lv_aload_n hx hb dX11_reads_43 rfl (lv_at hl 0 rfl) ?_
  refine lv_iload_n hx hb dX11_reads_44 rfl (lv_at hl 1 rfl) ?_
  obtain ⟨q, hq, hf⟩ := bd hf
  refine gcV_i (k := 2) (o := 130) (As := [.int v1]) (rest := []) hx hb hml hown hts hK hSt hP hS hl.1 (goodV wm_31_12 wm_31_13 wm_31_14 wm_1_5 wm_31_15) okX11_behind ct_130 rfl rfl (Nat.le_of_ble_eq_true rfl) (Nat.le_of_ble_eq_true rfl) rfl rfl (Nat.le_of_ble_eq_true rfl) dX11_reads_45 (kX11_behind l D G ad had n  v1 st q hq) (fun H locs hP hS => ?_)
  exact wX11_reads_s48 C n K19 v1 v2 q.1 q.2 res hK19 hf H locs ls (lv_sub hl [0, 1, 2] rfl) hP hS
def fX11_reads_s40 (n : Nat) (K19 : Int32 → Int32 → St → Option (Int32 × St))  (v1 : Int32) (v2 : Int32) (k0 : Int32) (st : St) : Option (Int32 × St) := fX11_reads_s48 n K19 v1 v2 k0 st
set_option maxHeartbeats 4000000 in
set_option maxRecDepth 100000 in
theorem wX11_reads_s40 (C : Cx p s m args meth c cX11_reads 6 wsL_law RX11 (some .int) D G ad) (n : Nat) (K19 : Int32 → Int32 → St → Option (Int32 × St))  (v1 : Int32) (v2 : Int32) (k0 : Int32)   (st : St) (res : (Int32 × St)) (hK19 : ∀ (v1 : Int32) (v2 : Int32) (st : St), K19 v1 v2 st = some res → At p l e (rmK 3) s m args below meth c D G ad (MQI D G ad below args s res) 6 st [(0, .ref (ad 130)), (1, .int v1), (2, .int v2)] 19 []) (hf : fX11_reads_s40 n K19  v1 v2 k0 st = some res) : At p l e (rmK 3) s m args below meth c D G ad (MQI D G ad below args s res) 6 st [(0, .ref (ad 130)), (1, .int v1), (2, .int v2)] 40 [.int k0] := by
  obtain ⟨hx, hb, hml, hown, hts, hr, hlk, hK, had, hSt⟩ := id C
  intro H locs ls hl hP hS
  unfold fX11_reads_s40 at hf
  refine lv_goto (tgt := 48) hx hb dX11_reads_40 (by decide) ?_
  exact wX11_reads_s48 C n K19 v1 v2 k0 st res hK19 hf H locs ls (lv_sub hl [0, 1, 2] rfl) hP hS
def fX11_reads_s35 (n : Nat) (K19 : Int32 → Int32 → St → Option (Int32 × St))  (v1 : Int32) (v2 : Int32) (st : St) : Option (Int32 × St) := (fX11_operand n v1 st).bind (fun q => fX11_reads_s40 n K19 v1 v2 q.1 q.2)
set_option maxHeartbeats 4000000 in
set_option maxRecDepth 100000 in
theorem wX11_reads_s35 (C : Cx p s m args meth c cX11_reads 6 wsL_law RX11 (some .int) D G ad) (n : Nat) (K19 : Int32 → Int32 → St → Option (Int32 × St))  (v1 : Int32) (v2 : Int32)   (st : St) (res : (Int32 × St)) (hK19 : ∀ (v1 : Int32) (v2 : Int32) (st : St), K19 v1 v2 st = some res → At p l e (rmK 3) s m args below meth c D G ad (MQI D G ad below args s res) 6 st [(0, .ref (ad 130)), (1, .int v1), (2, .int v2)] 19 []) (hf : fX11_reads_s35 n K19  v1 v2 st = some res) : At p l e (rmK 3) s m args below meth c D G ad (MQI D G ad below args s res) 6 st [(0, .ref (ad 130)), (1, .int v1), (2, .int v2)] 35 [] := by
  obtain ⟨hx, hb, hml, hown, hts, hr, hlk, hK, had, hSt⟩ := id C
  intro H locs ls hl hP hS
  unfold fX11_reads_s35 at hf
  refine lv_aload_n hx hb dX11_reads_35 rfl (lv_at hl 0 rfl) ?_
  refine lv_iload_n hx hb dX11_reads_36 rfl (lv_at hl 1 rfl) ?_
  obtain ⟨q, hq, hf⟩ := bd hf
  refine gcV_i (k := 2) (o := 130) (As := [.int v1]) (rest := []) hx hb hml hown hts hK hSt hP hS hl.1 (goodV wm_30_13 wm_30_14 wm_30_15 wm_1_5 wm_30_16) okX11_operand ct_130 rfl rfl (Nat.le_of_ble_eq_true rfl) (Nat.le_of_ble_eq_true rfl) rfl rfl (Nat.le_of_ble_eq_true rfl) dX11_reads_37 (kX11_operand l D G ad had n  v1 st q hq) (fun H locs hP hS => ?_)
  exact wX11_reads_s40 C n K19 v1 v2 q.1 q.2 res hK19 hf H locs ls (lv_sub hl [0, 1, 2] rfl) hP hS
def fX11_reads_s31 (n : Nat) (K19 : Int32 → Int32 → St → Option (Int32 × St))  (v1 : Int32) (v2 : Int32) (st : St) : Option (Int32 × St) := if v2 = 0 then fX11_reads_s43 n K19 v1 v2 st else fX11_reads_s35 n K19 v1 v2 st
set_option maxHeartbeats 4000000 in
set_option maxRecDepth 100000 in
theorem wX11_reads_s31 (C : Cx p s m args meth c cX11_reads 6 wsL_law RX11 (some .int) D G ad) (n : Nat) (K19 : Int32 → Int32 → St → Option (Int32 × St))  (v1 : Int32) (v2 : Int32)   (st : St) (res : (Int32 × St)) (hK19 : ∀ (v1 : Int32) (v2 : Int32) (st : St), K19 v1 v2 st = some res → At p l e (rmK 3) s m args below meth c D G ad (MQI D G ad below args s res) 6 st [(0, .ref (ad 130)), (1, .int v1), (2, .int v2)] 19 []) (hf : fX11_reads_s31 n K19  v1 v2 st = some res) : At p l e (rmK 3) s m args below meth c D G ad (MQI D G ad below args s res) 6 st [(0, .ref (ad 130)), (1, .int v1), (2, .int v2)] 31 [] := by
  obtain ⟨hx, hb, hml, hown, hts, hr, hlk, hK, had, hSt⟩ := id C
  intro H locs ls hl hP hS
  unfold fX11_reads_s31 at hf
  refine lv_iload_n hx hb dX11_reads_31 rfl (lv_at hl 2 rfl) ?_
  refine lv_if_eq (tgt := 43) hx hb dX11_reads_32 (by decide) (fun q => ?_) (fun q => ?_)
  · exact wX11_reads_s43 C n K19 v1 v2 st res hK19 (it hf q) H locs ls (lv_sub hl [0, 1, 2] rfl) hP hS
  · exact wX11_reads_s35 C n K19 v1 v2 st res hK19 (ie hf q) H locs ls (lv_sub hl [0, 1, 2] rfl) hP hS
def fX11_reads_s143 (n : Nat)    (st : St) : Option (Int32 × St) := some ((-1), st)
set_option maxHeartbeats 4000000 in
set_option maxRecDepth 100000 in
theorem wX11_reads_s143 (C : Cx p s m args meth c cX11_reads 6 wsL_law RX11 (some .int) D G ad) (n : Nat)      (st : St) (res : (Int32 × St))  (hf : fX11_reads_s143 n    st = some res) : At p l e (rmK 3) s m args below meth c D G ad (MQI D G ad below args s res) 6 st [] 143 [] := by
  obtain ⟨hx, hb, hml, hown, hts, hr, hlk, hK, had, hSt⟩ := id C
  intro H locs ls hl hP hS
  unfold fX11_reads_s143 at hf
  refine lv_iconst (v := (-1)) hx hb dX11_reads_143 (by decide) ?_
  exact g_iret hx hb hr hlk hP hS dX11_reads_144 hf
def fX11_reads_s138 (n : Nat)    (st : St) : Option (Int32 × St) := (fX11_unwinds n 1 st).bind (fun q => fX11_reads_s143 n q.2)
set_option maxHeartbeats 4000000 in
set_option maxRecDepth 100000 in
theorem wX11_reads_s138 (C : Cx p s m args meth c cX11_reads 6 wsL_law RX11 (some .int) D G ad) (n : Nat)      (st : St) (res : (Int32 × St))  (hf : fX11_reads_s138 n    st = some res) : At p l e (rmK 3) s m args below meth c D G ad (MQI D G ad below args s res) 6 st [(0, .ref (ad 130))] 138 [] := by
  obtain ⟨hx, hb, hml, hown, hts, hr, hlk, hK, had, hSt⟩ := id C
  intro H locs ls hl hP hS
  unfold fX11_reads_s138 at hf
  refine lv_aload_n hx hb dX11_reads_138 rfl (lv_at hl 0 rfl) ?_
  refine lv_iconst (v := 1) hx hb dX11_reads_139 (by decide) ?_
  obtain ⟨q, hq, hf⟩ := bd hf
  refine gcV_v (k := 1) (o := 130) (As := [.int 1]) (rest := []) hx hb hml hown hts hK hSt hP hS hl.1 (goodV wm_31_19 wm_31_20 wm_31_21 wm_1_5 wm_31_22) okX11_unwinds ct_130 rfl rfl (Nat.le_of_ble_eq_true rfl) (Nat.le_of_ble_eq_true rfl) rfl rfl (Nat.le_of_ble_eq_true rfl) dX11_reads_140 (kX11_unwinds l D G ad had n  1 st q hq) (fun H locs hP hS => ?_)
  exact wX11_reads_s143 C n q.2 res hf H locs ls (lv_sub hl [] rfl) hP hS
def fX11_reads_s133 (n : Nat)    (st : St) : Option (Int32 × St) := some (st.1 130 32, st)
set_option maxHeartbeats 4000000 in
set_option maxRecDepth 100000 in
theorem wX11_reads_s133 (C : Cx p s m args meth c cX11_reads 6 wsL_law RX11 (some .int) D G ad) (n : Nat)      (st : St) (res : (Int32 × St))  (hf : fX11_reads_s133 n    st = some res) : At p l e (rmK 3) s m args below meth c D G ad (MQI D G ad below args s res) 6 st [(0, .ref (ad 130))] 133 [] := by
  obtain ⟨hx, hb, hml, hown, hts, hr, hlk, hK, had, hSt⟩ := id C
  intro H locs ls hl hP hS
  unfold fX11_reads_s133 at hf
  refine lv_aload_n hx hb dX11_reads_133 rfl (lv_at hl 0 rfl) ?_
  refine g_getI hx hb hts inlX11 hown hK hP 130 ct_130 rfl 32 (by decide) (hts _ wm_25_11) rfl dX11_reads_134 ?_
  exact g_iret hx hb hr hlk hP hS dX11_reads_137 hf
def fX11_reads_s126 (n : Nat)    (st : St) : Option (Int32 × St) := if (st.1 130 36) ≤ 0 then fX11_reads_s138 n st else fX11_reads_s133 n st
set_option maxHeartbeats 4000000 in
set_option maxRecDepth 100000 in
theorem wX11_reads_s126 (C : Cx p s m args meth c cX11_reads 6 wsL_law RX11 (some .int) D G ad) (n : Nat)      (st : St) (res : (Int32 × St))  (hf : fX11_reads_s126 n    st = some res) : At p l e (rmK 3) s m args below meth c D G ad (MQI D G ad below args s res) 6 st [(0, .ref (ad 130))] 126 [] := by
  obtain ⟨hx, hb, hml, hown, hts, hr, hlk, hK, had, hSt⟩ := id C
  intro H locs ls hl hP hS
  unfold fX11_reads_s126 at hf
  refine lv_aload_n hx hb dX11_reads_126 rfl (lv_at hl 0 rfl) ?_
  refine g_getI hx hb hts inlX11 hown hK hP 130 ct_130 rfl 36 (by decide) (hts _ wm_30_12) rfl dX11_reads_127 ?_
  refine lv_if_le (tgt := 138) hx hb dX11_reads_130 (by decide) (fun q => ?_) (fun q => ?_)
  · exact wX11_reads_s138 C n st res (it hf q) H locs ls (lv_sub hl [0] rfl) hP hS
  · exact wX11_reads_s133 C n st res (ie hf q) H locs ls (lv_sub hl [0] rfl) hP hS
def fX11_reads_s23 (n : Nat) (K19 : Int32 → Int32 → St → Option (Int32 × St))  (v1 : Int32) (v2 : Int32) (st : St) : Option (Int32 × St) := if (st.1 130 32) ≤ v1 then fX11_reads_s126 n st else fX11_reads_s31 n K19 v1 v2 st
set_option maxHeartbeats 4000000 in
set_option maxRecDepth 100000 in
theorem wX11_reads_s23 (C : Cx p s m args meth c cX11_reads 6 wsL_law RX11 (some .int) D G ad) (n : Nat) (K19 : Int32 → Int32 → St → Option (Int32 × St))  (v1 : Int32) (v2 : Int32)   (st : St) (res : (Int32 × St)) (hK19 : ∀ (v1 : Int32) (v2 : Int32) (st : St), K19 v1 v2 st = some res → At p l e (rmK 3) s m args below meth c D G ad (MQI D G ad below args s res) 6 st [(0, .ref (ad 130)), (1, .int v1), (2, .int v2)] 19 []) (hf : fX11_reads_s23 n K19  v1 v2 st = some res) : At p l e (rmK 3) s m args below meth c D G ad (MQI D G ad below args s res) 6 st [(0, .ref (ad 130)), (1, .int v1), (2, .int v2)] 23 [] := by
  obtain ⟨hx, hb, hml, hown, hts, hr, hlk, hK, had, hSt⟩ := id C
  intro H locs ls hl hP hS
  unfold fX11_reads_s23 at hf
  refine lv_iload_n hx hb dX11_reads_23 rfl (lv_at hl 1 rfl) ?_
  refine lv_aload_n hx hb dX11_reads_24 rfl (lv_at hl 0 rfl) ?_
  refine g_getI hx hb hts inlX11 hown hK hP 130 ct_130 rfl 32 (by decide) (hts _ wm_25_11) rfl dX11_reads_25 ?_
  refine lv_icmp_ge (tgt := 126) hx hb dX11_reads_28 (by decide) (fun q => ?_) (fun q => ?_)
  · exact wX11_reads_s126 C n st res (it hf q) H locs ls (lv_sub hl [0] rfl) hP hS
  · exact wX11_reads_s31 C n K19 v1 v2 st res hK19 (ie hf q) H locs ls (lv_sub hl [0, 1, 2] rfl) hP hS
def fX11_reads_s19 (n : Nat) (K19 : Int32 → Int32 → St → Option (Int32 × St))  (v1 : Int32) (v2 : Int32) (st : St) : Option (Int32 × St) := if v2 = 0 then fX11_reads_s23 n K19 v1 v2 st else fX11_reads_s31 n K19 v1 v2 st
set_option maxHeartbeats 4000000 in
set_option maxRecDepth 100000 in
theorem wX11_reads_s19 (C : Cx p s m args meth c cX11_reads 6 wsL_law RX11 (some .int) D G ad) (n : Nat) (K19 : Int32 → Int32 → St → Option (Int32 × St))  (v1 : Int32) (v2 : Int32)   (st : St) (res : (Int32 × St)) (hK19 : ∀ (v1 : Int32) (v2 : Int32) (st : St), K19 v1 v2 st = some res → At p l e (rmK 3) s m args below meth c D G ad (MQI D G ad below args s res) 6 st [(0, .ref (ad 130)), (1, .int v1), (2, .int v2)] 19 []) (hf : fX11_reads_s19 n K19  v1 v2 st = some res) : At p l e (rmK 3) s m args below meth c D G ad (MQI D G ad below args s res) 6 st [(0, .ref (ad 130)), (1, .int v1), (2, .int v2)] 19 [] := by
  obtain ⟨hx, hb, hml, hown, hts, hr, hlk, hK, had, hSt⟩ := id C
  intro H locs ls hl hP hS
  unfold fX11_reads_s19 at hf
  refine lv_iload_n hx hb dX11_reads_19 rfl (lv_at hl 2 rfl) ?_
  refine lv_if_ne (tgt := 31) hx hb dX11_reads_20 (by decide) (fun q => ?_) (fun q => ?_)
  · exact wX11_reads_s31 C n K19 v1 v2 st res hK19 (ie hf q) H locs ls (lv_sub hl [0, 1, 2] rfl) hP hS
  · exact wX11_reads_s23 C n K19 v1 v2 st res hK19 (it hf q) H locs ls (lv_sub hl [0, 1, 2] rfl) hP hS
def fX11_reads_L19 (n : Nat)   : Nat → Int32 → Int32 → St → Option (Int32 × St)
  | 0, _, _, _ => none
  | k + 1, v1, v2, st => fX11_reads_s19 n (fX11_reads_L19 n k)  v1 v2 st
theorem wX11_reads_L19 (C : Cx p s m args meth c cX11_reads 6 wsL_law RX11 (some .int) D G ad) (n : Nat)    (res : (Int32 × St))  : ∀ (k : Nat) (v1 : Int32) (v2 : Int32)  (st : St), fX11_reads_L19 n k v1 v2 st = some res → At p l e (rmK 3) s m args below meth c D G ad (MQI D G ad below args s res) 6 st [(0, .ref (ad 130)), (1, .int v1), (2, .int v2)] 19 [] := by
  intro k
  induction k with
  | zero => intro v1 v2  st h; exact absurd h (by intro q; cases q)
  | succ k ih => intro v1 v2  st h; exact wX11_reads_s19 C n (fX11_reads_L19 n k)  v1 v2   st res ih h
def fX11_reads_s15 (n : Nat)    (st : St) : Option (Int32 × St) := fX11_reads_L19 n n 0 1 st
set_option maxHeartbeats 4000000 in
set_option maxRecDepth 100000 in
theorem wX11_reads_s15 (C : Cx p s m args meth c cX11_reads 6 wsL_law RX11 (some .int) D G ad) (n : Nat)      (st : St) (res : (Int32 × St))  (hf : fX11_reads_s15 n    st = some res) : At p l e (rmK 3) s m args below meth c D G ad (MQI D G ad below args s res) 6 st [(0, .ref (ad 130))] 15 [] := by
  obtain ⟨hx, hb, hml, hown, hts, hr, hlk, hK, had, hSt⟩ := id C
  intro H locs ls hl hP hS
  unfold fX11_reads_s15 at hf
  refine lv_iconst (v := 0) hx hb dX11_reads_15 (by decide) ?_
  refine lv_istore_n (lv' := [(1, .int 0), (0, .ref (ad 130))]) hx hb dX11_reads_16 rfl hl (by decide) rfl (fun ls hl => ?_)
  refine lv_iconst (v := 1) hx hb dX11_reads_17 (by decide) ?_
  refine lv_istore_n (lv' := [(2, .int 1), (1, .int 0), (0, .ref (ad 130))]) hx hb dX11_reads_18 rfl hl (by decide) rfl (fun ls hl => ?_)
  exact wX11_reads_L19 C n res n 0 1 st hf H locs ls (lv_sub hl [2, 1, 0] rfl) hP hS
def fX11_reads_s10 (n : Nat)    (st : St) : Option (Int32 × St) := fX11_reads_s15 n (setI st 130 37 0)
set_option maxHeartbeats 4000000 in
set_option maxRecDepth 100000 in
theorem wX11_reads_s10 (C : Cx p s m args meth c cX11_reads 6 wsL_law RX11 (some .int) D G ad) (n : Nat)      (st : St) (res : (Int32 × St))  (hf : fX11_reads_s10 n    st = some res) : At p l e (rmK 3) s m args below meth c D G ad (MQI D G ad below args s res) 6 st [(0, .ref (ad 130))] 10 [] := by
  obtain ⟨hx, hb, hml, hown, hts, hr, hlk, hK, had, hSt⟩ := id C
  intro H locs ls hl hP hS
  unfold fX11_reads_s10 at hf
  refine lv_aload_n hx hb dX11_reads_10 rfl (lv_at hl 0 rfl) ?_
  refine lv_iconst (v := 0) hx hb dX11_reads_11 (by decide) ?_
  refine g_putI hx hb hts inlX11 tyX11_ok nmX11 hown hK had hP hS 130 ct_130 rfl 37 (by decide) (hts _ wm_30_6) rfl rfl rfl rfl rfl dX11_reads_12 (fun H locs hP hS => ?_)
  exact wX11_reads_s15 C n (setI st 130 37 0) res hf H locs ls (lv_sub hl [0] rfl) hP hS
def fX11_reads_s5 (n : Nat)    (st : St) : Option (Int32 × St) := fX11_reads_s10 n (setI st 130 36 0)
set_option maxHeartbeats 4000000 in
set_option maxRecDepth 100000 in
theorem wX11_reads_s5 (C : Cx p s m args meth c cX11_reads 6 wsL_law RX11 (some .int) D G ad) (n : Nat)      (st : St) (res : (Int32 × St))  (hf : fX11_reads_s5 n    st = some res) : At p l e (rmK 3) s m args below meth c D G ad (MQI D G ad below args s res) 6 st [(0, .ref (ad 130))] 5 [] := by
  obtain ⟨hx, hb, hml, hown, hts, hr, hlk, hK, had, hSt⟩ := id C
  intro H locs ls hl hP hS
  unfold fX11_reads_s5 at hf
  refine lv_aload_n hx hb dX11_reads_5 rfl (lv_at hl 0 rfl) ?_
  refine lv_iconst (v := 0) hx hb dX11_reads_6 (by decide) ?_
  refine g_putI hx hb hts inlX11 tyX11_ok nmX11 hown hK had hP hS 130 ct_130 rfl 36 (by decide) (hts _ wm_30_12) rfl rfl rfl rfl rfl dX11_reads_7 (fun H locs hP hS => ?_)
  exact wX11_reads_s10 C n (setI st 130 36 0) res hf H locs ls (lv_sub hl [0] rfl) hP hS
def fX11_reads_s0 (n : Nat)    (st : St) : Option (Int32 × St) := fX11_reads_s5 n (setI st 130 35 0)
set_option maxHeartbeats 4000000 in
set_option maxRecDepth 100000 in
theorem wX11_reads_s0 (C : Cx p s m args meth c cX11_reads 6 wsL_law RX11 (some .int) D G ad) (n : Nat)      (st : St) (res : (Int32 × St))  (hf : fX11_reads_s0 n    st = some res) : At p l e (rmK 3) s m args below meth c D G ad (MQI D G ad below args s res) 6 st [(0, .ref (ad 130))] 0 [] := by
  obtain ⟨hx, hb, hml, hown, hts, hr, hlk, hK, had, hSt⟩ := id C
  intro H locs ls hl hP hS
  unfold fX11_reads_s0 at hf
  refine lv_aload_n hx hb dX11_reads_0 rfl (lv_at hl 0 rfl) ?_
  refine lv_iconst (v := 0) hx hb dX11_reads_1 (by decide) ?_
  refine g_putI hx hb hts inlX11 tyX11_ok nmX11 hown hK had hP hS 130 ct_130 rfl 35 (by decide) (hts _ wm_30_11) rfl rfl rfl rfl rfl dX11_reads_2 (fun H locs hP hS => ?_)
  exact wX11_reads_s5 C n (setI st 130 35 0) res hf H locs ls (lv_sub hl [0] rfl) hP hS
def fX11_reads (n : Nat)   (st : St) : Option (Int32 × St) := fX11_reads_s0 n st
theorem okX11_reads : okY yX11_reads RX11 0 := by unfold okY; decide +kernel
end
set_option maxRecDepth 100000 in
theorem kX11_reads (l : Launch) (D : va_G) (G : G3) (ad : Nat → Nat) (had : Adr ad) (n : Nat)    (st : St) (res : (Int32 × St)) (hf : fX11_reads n   st = some res) {sz : Nat} : CtI l yX11_reads (wsU yX11_reads cX11_reads 6 (some .int)) (rmK 3) D G ad sz [.ref (ad 130)] st res := by
  refine Met.ofW (cc := cX11_reads) (maxL := 6) (ret := (some .int)) (by decide) rfl ?_
  intro p e s m args below meth c s₁ B hml hv
  obtain ⟨rfl, hsz, hP, hK, hSt⟩ := hv
  have hts := atoms_spec (ws := wsU yX11_reads cX11_reads 6 (some .int)) B.pre
  have C : Cx p s m _ meth c cX11_reads 6 wsL_law RX11 (some .int) D G ad := ⟨B.exec, B.bytes, hml, findClass_of_methodNamed B.named, fun w h => hts w (List.mem_cons_of_mem _ h), B.returns, B.notSynchronized, hK, had, hSt⟩
  subst hsz
  have hl := lv_entry ([.ref (ad 130)]) (n := 6) (Nat.le_of_ble_eq_true rfl)
  rw [lg_entry_eq]
  generalize (lg_sl ([.ref (ad 130)]) ++ List.replicate (6 - (lg_sl ([.ref (ad 130)])).length) Slot.unset).toArray = ls at hl ⊢
  exact wX11_reads_s0 C n     st res hf s.heap [] ls (lv_sub hl [0] rfl) hP va_S.rf
section
variable {p : Program} {l : Launch} {e : Env} {s : State} {m : MethodId} {args : Array Value} {below : List Frame} {meth : Method} {c : Code} {D : va_G} {G : G3} {ad : Nat → Nat}
def fX11_rule_s55 (n : Nat)    (st : St) : Option (Int32 × St) := some ((st.1 130 28) - 1, st)
set_option maxHeartbeats 4000000 in
set_option maxRecDepth 100000 in
theorem wX11_rule_s55 (C : Cx p s m args meth c cX11_rule 2 wsL_law RX11 (some .int) D G ad) (n : Nat)      (st : St) (res : (Int32 × St))  (hf : fX11_rule_s55 n    st = some res) : At p l e (rmK 4) s m args below meth c D G ad (MQI D G ad below args s res) 2 st [(0, .ref (ad 130))] 55 [] := by
  obtain ⟨hx, hb, hml, hown, hts, hr, hlk, hK, had, hSt⟩ := id C
  intro H locs ls hl hP hS
  unfold fX11_rule_s55 at hf
  refine lv_aload_n hx hb dX11_rule_55 rfl (lv_at hl 0 rfl) ?_
  refine g_getI hx hb hts inlX11 hown hK hP 130 ct_130 rfl 28 (by decide) (hts _ wm_12_5) rfl dX11_rule_56 ?_
  refine lv_iconst (v := 1) hx hb dX11_rule_59 (by decide) ?_
  refine lv_isub hx hb dX11_rule_60 ?_
  exact g_iret hx hb hr hlk hP hS dX11_rule_61 hf
def fX11_rule_s45 (n : Nat)    (st : St) : Option (Int32 × St) := fX11_rule_s55 n (setI st 130 28 ((st.1 130 28) + 1))
set_option maxHeartbeats 4000000 in
set_option maxRecDepth 100000 in
theorem wX11_rule_s45 (C : Cx p s m args meth c cX11_rule 2 wsL_law RX11 (some .int) D G ad) (n : Nat)      (st : St) (res : (Int32 × St))  (hf : fX11_rule_s45 n    st = some res) : At p l e (rmK 4) s m args below meth c D G ad (MQI D G ad below args s res) 2 st [(0, .ref (ad 130))] 45 [] := by
  obtain ⟨hx, hb, hml, hown, hts, hr, hlk, hK, had, hSt⟩ := id C
  intro H locs ls hl hP hS
  unfold fX11_rule_s45 at hf
  refine lv_aload_n hx hb dX11_rule_45 rfl (lv_at hl 0 rfl) ?_
  refine lv_dup hx hb dX11_rule_46 rfl ?_
  refine g_getI hx hb hts inlX11 hown hK hP 130 ct_130 rfl 28 (by decide) (hts _ wm_12_5) rfl dX11_rule_47 ?_
  refine lv_iconst (v := 1) hx hb dX11_rule_50 (by decide) ?_
  refine lv_iadd hx hb dX11_rule_51 ?_
  refine g_putI hx hb hts inlX11 tyX11_ok nmX11 hown hK had hP hS 130 ct_130 rfl 28 (by decide) (hts _ wm_12_5) rfl rfl rfl rfl rfl dX11_rule_52 (fun H locs hP hS => ?_)
  exact wX11_rule_s55 C n (setI st 130 28 ((st.1 130 28) + 1)) res hf H locs ls (lv_sub hl [0] rfl) hP hS
def fX11_rule_s32 (n : Nat)    (st : St) : Option (Int32 × St) := if inb (st.1 130 28) 12 = true then (fX11_rule_s45 n (setI st 153 (st.1 130 28).toNatClampNeg (st.1 130 37))) else none
set_option maxHeartbeats 4000000 in
set_option maxRecDepth 100000 in
theorem wX11_rule_s32 (C : Cx p s m args meth c cX11_rule 2 wsL_law RX11 (some .int) D G ad) (n : Nat)      (st : St) (res : (Int32 × St))  (hf : fX11_rule_s32 n    st = some res) : At p l e (rmK 4) s m args below meth c D G ad (MQI D G ad below args s res) 2 st [(0, .ref (ad 130))] 32 [] := by
  obtain ⟨hx, hb, hml, hown, hts, hr, hlk, hK, had, hSt⟩ := id C
  intro H locs ls hl hP hS
  unfold fX11_rule_s32 at hf
  refine lv_aload_n hx hb dX11_rule_32 rfl (lv_at hl 0 rfl) ?_
  refine g_getR hx hb hts inlX11 hown hK hP 130 ct_130 rfl 29 (by decide) (hts _ wm_8_0) rfl dX11_rule_33 ?_
  refine lv_aload_n hx hb dX11_rule_36 rfl (lv_at hl 0 rfl) ?_
  refine g_getI hx hb hts inlX11 hown hK hP 130 ct_130 rfl 28 (by decide) (hts _ wm_12_5) rfl dX11_rule_37 ?_
  refine lv_aload_n hx hb dX11_rule_40 rfl (lv_at hl 0 rfl) ?_
  refine g_getI hx hb hts inlX11 hown hK hP 130 ct_130 rfl 37 (by decide) (hts _ wm_30_6) rfl dX11_rule_41 ?_
  obtain ⟨g1, hf⟩ := gd hf
  refine g_iast hx hb hK had hP hS 153 ct_153 g1 dX11_rule_44 (fun H locs hP hS => ?_)
  exact wX11_rule_s45 C n (setI st 153 (st.1 130 28).toNatClampNeg (st.1 130 37)) res hf H locs ls (lv_sub hl [0] rfl) hP hS
def fX11_rule_s27 (n : Nat)   (v1 : Int32) (st : St) : Option (Int32 × St) := some ((-10) - v1, st)
set_option maxHeartbeats 4000000 in
set_option maxRecDepth 100000 in
theorem wX11_rule_s27 (C : Cx p s m args meth c cX11_rule 2 wsL_law RX11 (some .int) D G ad) (n : Nat)   (v1 : Int32)   (st : St) (res : (Int32 × St))  (hf : fX11_rule_s27 n   v1 st = some res) : At p l e (rmK 4) s m args below meth c D G ad (MQI D G ad below args s res) 2 st [(1, .int v1)] 27 [] := by
  obtain ⟨hx, hb, hml, hown, hts, hr, hlk, hK, had, hSt⟩ := id C
  intro H locs ls hl hP hS
  unfold fX11_rule_s27 at hf
  refine lv_bipush (v := (-10)) hx hb dX11_rule_27 (by decide) ?_
  refine lv_iload_n hx hb dX11_rule_29 rfl (lv_at hl 0 rfl) ?_
  refine lv_isub hx hb dX11_rule_30 ?_
  exact g_iret hx hb hr hlk hP hS dX11_rule_31 hf
def fX11_rule_s22 (n : Nat)   (v1 : Int32) (st : St) : Option (Int32 × St) := if v1 = (-1) then fX11_rule_s32 n st else fX11_rule_s27 n v1 st
set_option maxHeartbeats 4000000 in
set_option maxRecDepth 100000 in
theorem wX11_rule_s22 (C : Cx p s m args meth c cX11_rule 2 wsL_law RX11 (some .int) D G ad) (n : Nat)   (v1 : Int32)   (st : St) (res : (Int32 × St))  (hf : fX11_rule_s22 n   v1 st = some res) : At p l e (rmK 4) s m args below meth c D G ad (MQI D G ad below args s res) 2 st [(0, .ref (ad 130)), (1, .int v1)] 22 [] := by
  obtain ⟨hx, hb, hml, hown, hts, hr, hlk, hK, had, hSt⟩ := id C
  intro H locs ls hl hP hS
  unfold fX11_rule_s22 at hf
  refine lv_iload_n hx hb dX11_rule_22 rfl (lv_at hl 1 rfl) ?_
  refine lv_iconst (v := (-1)) hx hb dX11_rule_23 (by decide) ?_
  refine lv_icmp_eq (tgt := 32) hx hb dX11_rule_24 (by decide) (fun q => ?_) (fun q => ?_)
  · exact wX11_rule_s32 C n st res (it hf q) H locs ls (lv_sub hl [0] rfl) hP hS
  · exact wX11_rule_s27 C n v1 st res (ie hf q) H locs ls (lv_sub hl [1] rfl) hP hS
def fX11_rule_s16 (n : Nat)   (k0 : Int32) (st : St) : Option (Int32 × St) := fX11_rule_s22 n k0 (setI st 130 32 0)
set_option maxHeartbeats 4000000 in
set_option maxRecDepth 100000 in
theorem wX11_rule_s16 (C : Cx p s m args meth c cX11_rule 2 wsL_law RX11 (some .int) D G ad) (n : Nat)   (k0 : Int32)   (st : St) (res : (Int32 × St))  (hf : fX11_rule_s16 n   k0 st = some res) : At p l e (rmK 4) s m args below meth c D G ad (MQI D G ad below args s res) 2 st [(0, .ref (ad 130))] 16 [.int k0] := by
  obtain ⟨hx, hb, hml, hown, hts, hr, hlk, hK, had, hSt⟩ := id C
  intro H locs ls hl hP hS
  unfold fX11_rule_s16 at hf
  refine lv_istore_n (lv' := [(1, .int k0), (0, .ref (ad 130))]) hx hb dX11_rule_16 rfl hl (by decide) rfl (fun ls hl => ?_)
  refine lv_aload_n hx hb dX11_rule_17 rfl (lv_at hl 1 rfl) ?_
  refine lv_iconst (v := 0) hx hb dX11_rule_18 (by decide) ?_
  refine g_putI hx hb hts inlX11 tyX11_ok nmX11 hown hK had hP hS 130 ct_130 rfl 32 (by decide) (hts _ wm_25_11) rfl rfl rfl rfl rfl dX11_rule_19 (fun H locs hP hS => ?_)
  exact wX11_rule_s22 C n k0 (setI st 130 32 0) res hf H locs ls (lv_sub hl [1, 0] rfl) hP hS
def fX11_rule_s12 (n : Nat)    (st : St) : Option (Int32 × St) := (fX11_reads n st).bind (fun q => fX11_rule_s16 n q.1 q.2)
set_option maxHeartbeats 4000000 in
set_option maxRecDepth 100000 in
theorem wX11_rule_s12 (C : Cx p s m args meth c cX11_rule 2 wsL_law RX11 (some .int) D G ad) (n : Nat)      (st : St) (res : (Int32 × St))  (hf : fX11_rule_s12 n    st = some res) : At p l e (rmK 4) s m args below meth c D G ad (MQI D G ad below args s res) 2 st [(0, .ref (ad 130))] 12 [] := by
  obtain ⟨hx, hb, hml, hown, hts, hr, hlk, hK, had, hSt⟩ := id C
  intro H locs ls hl hP hS
  unfold fX11_rule_s12 at hf
  refine lv_aload_n hx hb dX11_rule_12 rfl (lv_at hl 0 rfl) ?_
  obtain ⟨q, hq, hf⟩ := bd hf
  refine gcV_i (k := 3) (o := 130) (As := []) (rest := []) hx hb hml hown hts hK hSt hP hS hl.1 (goodV wm_30_7 wm_30_8 wm_30_9 wm_1_5 wm_30_10) okX11_reads ct_130 rfl rfl (Nat.le_of_ble_eq_true rfl) (Nat.le_of_ble_eq_true rfl) rfl rfl (Nat.le_of_ble_eq_true rfl) dX11_rule_13 (kX11_reads l D G ad had n   st q hq) (fun H locs hP hS => ?_)
  exact wX11_rule_s16 C n q.1 q.2 res hf H locs ls (lv_sub hl [0] rfl) hP hS
def fX11_rule_s9 (n : Nat)    (st : St) : Option (Int32 × St) := some ((-4), st)
set_option maxHeartbeats 4000000 in
set_option maxRecDepth 100000 in
theorem wX11_rule_s9 (C : Cx p s m args meth c cX11_rule 2 wsL_law RX11 (some .int) D G ad) (n : Nat)      (st : St) (res : (Int32 × St))  (hf : fX11_rule_s9 n    st = some res) : At p l e (rmK 4) s m args below meth c D G ad (MQI D G ad below args s res) 2 st [] 9 [] := by
  obtain ⟨hx, hb, hml, hown, hts, hr, hlk, hK, had, hSt⟩ := id C
  intro H locs ls hl hP hS
  unfold fX11_rule_s9 at hf
  refine lv_bipush (v := (-4)) hx hb dX11_rule_9 (by decide) ?_
  exact g_iret hx hb hr hlk hP hS dX11_rule_11 hf
def fX11_rule_s0 (n : Nat)    (st : St) : Option (Int32 × St) := if (st.1 130 28) = 12 then fX11_rule_s9 n st else fX11_rule_s12 n st
set_option maxHeartbeats 4000000 in
set_option maxRecDepth 100000 in
theorem wX11_rule_s0 (C : Cx p s m args meth c cX11_rule 2 wsL_law RX11 (some .int) D G ad) (n : Nat)      (st : St) (res : (Int32 × St))  (hf : fX11_rule_s0 n    st = some res) : At p l e (rmK 4) s m args below meth c D G ad (MQI D G ad below args s res) 2 st [(0, .ref (ad 130))] 0 [] := by
  obtain ⟨hx, hb, hml, hown, hts, hr, hlk, hK, had, hSt⟩ := id C
  intro H locs ls hl hP hS
  unfold fX11_rule_s0 at hf
  refine lv_aload_n hx hb dX11_rule_0 rfl (lv_at hl 0 rfl) ?_
  refine g_getI hx hb hts inlX11 hown hK hP 130 ct_130 rfl 28 (by decide) (hts _ wm_12_5) rfl dX11_rule_1 ?_
  refine lv_bipush (v := 12) hx hb dX11_rule_4 (by decide) ?_
  refine lv_icmp_ne (tgt := 12) hx hb dX11_rule_6 (by decide) (fun q => ?_) (fun q => ?_)
  · exact wX11_rule_s12 C n st res (ie hf q) H locs ls (lv_sub hl [0] rfl) hP hS
  · exact wX11_rule_s9 C n st res (it hf q) H locs ls (lv_sub hl [] rfl) hP hS
def fX11_rule (n : Nat)   (st : St) : Option (Int32 × St) := fX11_rule_s0 n st
theorem okX11_rule : okY yX11_rule RX11 0 := by unfold okY; decide +kernel
end
set_option maxRecDepth 100000 in
theorem kX11_rule (l : Launch) (D : va_G) (G : G3) (ad : Nat → Nat) (had : Adr ad) (n : Nat)    (st : St) (res : (Int32 × St)) (hf : fX11_rule n   st = some res) {sz : Nat} : CtI l yX11_rule (wsU yX11_rule cX11_rule 2 (some .int)) (rmK 4) D G ad sz [.ref (ad 130)] st res := by
  refine Met.ofW (cc := cX11_rule) (maxL := 2) (ret := (some .int)) (by decide) rfl ?_
  intro p e s m args below meth c s₁ B hml hv
  obtain ⟨rfl, hsz, hP, hK, hSt⟩ := hv
  have hts := atoms_spec (ws := wsU yX11_rule cX11_rule 2 (some .int)) B.pre
  have C : Cx p s m _ meth c cX11_rule 2 wsL_law RX11 (some .int) D G ad := ⟨B.exec, B.bytes, hml, findClass_of_methodNamed B.named, fun w h => hts w (List.mem_cons_of_mem _ h), B.returns, B.notSynchronized, hK, had, hSt⟩
  subst hsz
  have hl := lv_entry ([.ref (ad 130)]) (n := 2) (Nat.le_of_ble_eq_true rfl)
  rw [lg_entry_eq]
  generalize (lg_sl ([.ref (ad 130)]) ++ List.replicate (2 - (lg_sl ([.ref (ad 130)])).length) Slot.unset).toArray = ls at hl ⊢
  exact wX11_rule_s0 C n     st res hf s.heap [] ls (lv_sub hl [0] rfl) hP va_S.rf
section
variable {p : Program} {l : Launch} {e : Env} {s : State} {m : MethodId} {args : Array Value} {below : List Frame} {meth : Method} {c : Code} {D : va_G} {G : G3} {ad : Nat → Nat}
def fX11_worth_s42 (n : Nat)   (k0 : Int64) (st : St) : Option (Int64 × St) := some (k0, st)
set_option maxHeartbeats 4000000 in
set_option maxRecDepth 100000 in
theorem wX11_worth_s42 (C : Cx p s m args meth c cX11_worth 3 wsL_law RX11 (some .long) D G ad) (n : Nat)   (k0 : Int64)   (st : St) (res : (Int64 × St))  (hf : fX11_worth_s42 n   k0 st = some res) : At p l e (rmK 4) s m args below meth c D G ad (MQJ D G ad below args s res) 3 st [] 42 [.long k0] := by
  obtain ⟨hx, hb, hml, hown, hts, hr, hlk, hK, had, hSt⟩ := id C
  intro H locs ls hl hP hS
  unfold fX11_worth_s42 at hf
  exact g_lret hx hb hr hlk hP hS dX11_worth_42 hf
def fX11_worth_s39 (n : Nat)    (st : St) : Option (Int64 × St) := fX11_worth_s42 n (-9223372036854775808) st
set_option maxHeartbeats 4000000 in
set_option maxRecDepth 100000 in
theorem wX11_worth_s39 (C : Cx p s m args meth c cX11_worth 3 wsL_law RX11 (some .long) D G ad) (n : Nat)      (st : St) (res : (Int64 × St))  (hf : fX11_worth_s39 n    st = some res) : At p l e (rmK 4) s m args below meth c D G ad (MQJ D G ad below args s res) 3 st [] 39 [] := by
  obtain ⟨hx, hb, hml, hown, hts, hr, hlk, hK, had, hSt⟩ := id C
  intro H locs ls hl hP hS
  unfold fX11_worth_s39 at hf
  refine lv_ldc2 hx hb hown (hts _ wm_14_15) dX11_worth_39 ?_
  exact wX11_worth_s42 C n (-9223372036854775808) st res hf H locs ls (lv_sub hl [] rfl) hP hS
def fX11_worth_s36 (n : Nat)   (k0 : Int64) (st : St) : Option (Int64 × St) := fX11_worth_s42 n k0 st
set_option maxHeartbeats 4000000 in
set_option maxRecDepth 100000 in
theorem wX11_worth_s36 (C : Cx p s m args meth c cX11_worth 3 wsL_law RX11 (some .long) D G ad) (n : Nat)   (k0 : Int64)   (st : St) (res : (Int64 × St))  (hf : fX11_worth_s36 n   k0 st = some res) : At p l e (rmK 4) s m args below meth c D G ad (MQJ D G ad below args s res) 3 st [] 36 [.long k0] := by
  obtain ⟨hx, hb, hml, hown, hts, hr, hlk, hK, had, hSt⟩ := id C
  intro H locs ls hl hP hS
  unfold fX11_worth_s36 at hf
  refine lv_goto (tgt := 42) hx hb dX11_worth_36 (by decide) ?_
  exact wX11_worth_s42 C n k0 st res hf H locs ls (lv_sub hl [] rfl) hP hS
def fX11_worth_s24 (n : Nat)   (v1 : Int32) (v2 : Int32) (st : St) : Option (Int64 × St) := (fX11_worthOf n v1 v2 ((st.1 130 12) - 1) st).bind (fun q => fX11_worth_s36 n q.1 q.2)
set_option maxHeartbeats 4000000 in
set_option maxRecDepth 100000 in
theorem wX11_worth_s24 (C : Cx p s m args meth c cX11_worth 3 wsL_law RX11 (some .long) D G ad) (n : Nat)   (v1 : Int32) (v2 : Int32)   (st : St) (res : (Int64 × St))  (hf : fX11_worth_s24 n   v1 v2 st = some res) : At p l e (rmK 4) s m args below meth c D G ad (MQJ D G ad below args s res) 3 st [(0, .ref (ad 130)), (1, .int v1), (2, .int v2)] 24 [] := by
  obtain ⟨hx, hb, hml, hown, hts, hr, hlk, hK, had, hSt⟩ := id C
  intro H locs ls hl hP hS
  unfold fX11_worth_s24 at hf
  refine lv_aload_n hx hb dX11_worth_24 rfl (lv_at hl 0 rfl) ?_
  refine lv_iload_n hx hb dX11_worth_25 rfl (lv_at hl 1 rfl) ?_
  refine lv_iload_n hx hb dX11_worth_26 rfl (lv_at hl 2 rfl) ?_
  refine lv_aload_n hx hb dX11_worth_27 rfl (lv_at hl 0 rfl) ?_
  refine g_getI hx hb hts inlX11 hown hK hP 130 ct_130 rfl 12 (by decide) (hts _ wm_10_15) rfl dX11_worth_28 ?_
  refine lv_iconst (v := 1) hx hb dX11_worth_31 (by decide) ?_
  refine lv_isub hx hb dX11_worth_32 ?_
  obtain ⟨q, hq, hf⟩ := bd hf
  refine gcV_j (k := 3) (o := 130) (As := [.int v1, .int v2, .int ((st.1 130 12) - 1)]) (rest := []) hx hb hml hown hts hK hSt hP hS hl.1 (goodV wm_23_11 wm_23_12 wm_23_13 wm_1_5 wm_23_14) okX11_worthOf ct_130 rfl rfl (Nat.le_of_ble_eq_true rfl) (Nat.le_of_ble_eq_true rfl) rfl rfl (Nat.le_of_ble_eq_true rfl) dX11_worth_33 (kX11_worthOf l D G ad had n  v1 v2 ((st.1 130 12) - 1) st q hq) (fun H locs hP hS => ?_)
  exact wX11_worth_s36 C n q.1 q.2 res hf H locs ls (lv_sub hl [] rfl) hP hS
def fX11_worth_s21 (n : Nat)   (v1 : Int32) (v2 : Int32) (k0 : Int32) (st : St) : Option (Int64 × St) := if k0 = 0 then fX11_worth_s39 n st else fX11_worth_s24 n v1 v2 st
set_option maxHeartbeats 4000000 in
set_option maxRecDepth 100000 in
theorem wX11_worth_s21 (C : Cx p s m args meth c cX11_worth 3 wsL_law RX11 (some .long) D G ad) (n : Nat)   (v1 : Int32) (v2 : Int32) (k0 : Int32)   (st : St) (res : (Int64 × St))  (hf : fX11_worth_s21 n   v1 v2 k0 st = some res) : At p l e (rmK 4) s m args below meth c D G ad (MQJ D G ad below args s res) 3 st [(0, .ref (ad 130)), (1, .int v1), (2, .int v2)] 21 [.int k0] := by
  obtain ⟨hx, hb, hml, hown, hts, hr, hlk, hK, had, hSt⟩ := id C
  intro H locs ls hl hP hS
  unfold fX11_worth_s21 at hf
  refine lv_if_eq (tgt := 39) hx hb dX11_worth_21 (by decide) (fun q => ?_) (fun q => ?_)
  · exact wX11_worth_s39 C n st res (it hf q) H locs ls (lv_sub hl [] rfl) hP hS
  · exact wX11_worth_s24 C n v1 v2 st res (ie hf q) H locs ls (lv_sub hl [0, 1, 2] rfl) hP hS
def fX11_worth_s16 (n : Nat)   (v1 : Int32) (v2 : Int32) (st : St) : Option (Int64 × St) := (fX11_isStage n v2 st).bind (fun q => fX11_worth_s21 n v1 v2 q.1 q.2)
set_option maxHeartbeats 4000000 in
set_option maxRecDepth 100000 in
theorem wX11_worth_s16 (C : Cx p s m args meth c cX11_worth 3 wsL_law RX11 (some .long) D G ad) (n : Nat)   (v1 : Int32) (v2 : Int32)   (st : St) (res : (Int64 × St))  (hf : fX11_worth_s16 n   v1 v2 st = some res) : At p l e (rmK 4) s m args below meth c D G ad (MQJ D G ad below args s res) 3 st [(0, .ref (ad 130)), (1, .int v1), (2, .int v2)] 16 [] := by
  obtain ⟨hx, hb, hml, hown, hts, hr, hlk, hK, had, hSt⟩ := id C
  intro H locs ls hl hP hS
  unfold fX11_worth_s16 at hf
  refine lv_aload_n hx hb dX11_worth_16 rfl (lv_at hl 0 rfl) ?_
  refine lv_iload_n hx hb dX11_worth_17 rfl (lv_at hl 2 rfl) ?_
  obtain ⟨q, hq, hf⟩ := bd hf
  refine gcV_i (k := 1) (o := 130) (As := [.int v2]) (rest := []) hx hb hml hown hts hK hSt hP hS hl.1 (goodV wm_10_17 wm_10_18 wm_10_19 wm_1_5 wm_10_20) okX11_isStage ct_130 rfl rfl (Nat.le_of_ble_eq_true rfl) (Nat.le_of_ble_eq_true rfl) rfl rfl (Nat.le_of_ble_eq_true rfl) dX11_worth_18 (kX11_isStage l D G ad had n  v2 st q hq) (fun H locs hP hS => ?_)
  exact wX11_worth_s21 C n v1 v2 q.1 q.2 res hf H locs ls (lv_sub hl [0, 1, 2] rfl) hP hS
def fX11_worth_s13 (n : Nat)   (v1 : Int32) (v2 : Int32) (k0 : Int32) (st : St) : Option (Int64 × St) := if k0 = 0 then fX11_worth_s39 n st else fX11_worth_s16 n v1 v2 st
set_option maxHeartbeats 4000000 in
set_option maxRecDepth 100000 in
theorem wX11_worth_s13 (C : Cx p s m args meth c cX11_worth 3 wsL_law RX11 (some .long) D G ad) (n : Nat)   (v1 : Int32) (v2 : Int32) (k0 : Int32)   (st : St) (res : (Int64 × St))  (hf : fX11_worth_s13 n   v1 v2 k0 st = some res) : At p l e (rmK 4) s m args below meth c D G ad (MQJ D G ad below args s res) 3 st [(0, .ref (ad 130)), (1, .int v1), (2, .int v2)] 13 [.int k0] := by
  obtain ⟨hx, hb, hml, hown, hts, hr, hlk, hK, had, hSt⟩ := id C
  intro H locs ls hl hP hS
  unfold fX11_worth_s13 at hf
  refine lv_if_eq (tgt := 39) hx hb dX11_worth_13 (by decide) (fun q => ?_) (fun q => ?_)
  · exact wX11_worth_s39 C n st res (it hf q) H locs ls (lv_sub hl [] rfl) hP hS
  · exact wX11_worth_s16 C n v1 v2 st res (ie hf q) H locs ls (lv_sub hl [0, 1, 2] rfl) hP hS
def fX11_worth_s0 (n : Nat)   (v1 : Int32) (v2 : Int32) (st : St) : Option (Int64 × St) := (fX11_in n v1.toInt64 0 (((st.1 130 28) - 1).toInt64) st).bind (fun q => fX11_worth_s13 n v1 v2 q.1 q.2)
set_option maxHeartbeats 4000000 in
set_option maxRecDepth 100000 in
theorem wX11_worth_s0 (C : Cx p s m args meth c cX11_worth 3 wsL_law RX11 (some .long) D G ad) (n : Nat)   (v1 : Int32) (v2 : Int32)   (st : St) (res : (Int64 × St))  (hf : fX11_worth_s0 n   v1 v2 st = some res) : At p l e (rmK 4) s m args below meth c D G ad (MQJ D G ad below args s res) 3 st [(0, .ref (ad 130)), (1, .int v1), (2, .int v2)] 0 [] := by
  obtain ⟨hx, hb, hml, hown, hts, hr, hlk, hK, had, hSt⟩ := id C
  intro H locs ls hl hP hS
  unfold fX11_worth_s0 at hf
  refine lv_iload_n hx hb dX11_worth_0 rfl (lv_at hl 1 rfl) ?_
  refine lv_i2l hx hb dX11_worth_1 rfl ?_
  refine lv_lconst (v := 0) hx hb dX11_worth_2 (by decide) ?_
  refine lv_aload_n hx hb dX11_worth_3 rfl (lv_at hl 0 rfl) ?_
  refine g_getI hx hb hts inlX11 hown hK hP 130 ct_130 rfl 28 (by decide) (hts _ wm_12_5) rfl dX11_worth_4 ?_
  refine lv_iconst (v := 1) hx hb dX11_worth_7 (by decide) ?_
  refine lv_isub hx hb dX11_worth_8 ?_
  refine lv_i2l hx hb dX11_worth_9 rfl ?_
  obtain ⟨q, hq, hf⟩ := bd hf
  refine gcS_i (k := 0) (As := [.long v1.toInt64, .long 0, .long (((st.1 130 28) - 1).toInt64)]) (rest := []) hx hb hml hown hts hK hSt hP hS hl.1 (goodS wm_10_21 wm_10_22 wm_1_5 wm_10_23) okX11_in (Nat.le_of_ble_eq_true rfl) (Nat.le_of_ble_eq_true rfl) rfl rfl (Nat.le_of_ble_eq_true rfl) dX11_worth_10 (kX11_in l D G ad had n  v1.toInt64 0 (((st.1 130 28) - 1).toInt64) st q hq) (fun H locs hP hS => ?_)
  exact wX11_worth_s13 C n v1 v2 q.1 q.2 res hf H locs ls (lv_sub hl [0, 1, 2] rfl) hP hS
def fX11_worth (n : Nat)  (a1 : Int32) (a2 : Int32) (st : St) : Option (Int64 × St) := fX11_worth_s0 n a1 a2 st
theorem okX11_worth : okY yX11_worth RX11 2 := by unfold okY; decide +kernel
end
set_option maxRecDepth 100000 in
theorem kX11_worth (l : Launch) (D : va_G) (G : G3) (ad : Nat → Nat) (had : Adr ad) (n : Nat)   (a1 : Int32) (a2 : Int32) (st : St) (res : (Int64 × St)) (hf : fX11_worth n  a1 a2 st = some res) {sz : Nat} : CtJ l yX11_worth (wsU yX11_worth cX11_worth 3 (some .long)) (rmK 4) D G ad sz [.ref (ad 130), .int a1, .int a2] st res := by
  refine Met.ofW (cc := cX11_worth) (maxL := 3) (ret := (some .long)) (by decide) rfl ?_
  intro p e s m args below meth c s₁ B hml hv
  obtain ⟨rfl, hsz, hP, hK, hSt⟩ := hv
  have hts := atoms_spec (ws := wsU yX11_worth cX11_worth 3 (some .long)) B.pre
  have C : Cx p s m _ meth c cX11_worth 3 wsL_law RX11 (some .long) D G ad := ⟨B.exec, B.bytes, hml, findClass_of_methodNamed B.named, fun w h => hts w (List.mem_cons_of_mem _ h), B.returns, B.notSynchronized, hK, had, hSt⟩
  subst hsz
  have hl := lv_entry ([.ref (ad 130), .int a1, .int a2]) (n := 3) (Nat.le_of_ble_eq_true rfl)
  rw [lg_entry_eq]
  generalize (lg_sl ([.ref (ad 130), .int a1, .int a2]) ++ List.replicate (3 - (lg_sl ([.ref (ad 130), .int a1, .int a2])).length) Slot.unset).toArray = ls at hl ⊢
  exact wX11_worth_s0 C n  a1 a2   st res hf s.heap [] ls (lv_sub hl [0, 1, 2] rfl) hP va_S.rf
section
variable {p : Program} {l : Launch} {e : Env} {s : State} {m : MethodId} {args : Array Value} {below : List Frame} {meth : Method} {c : Code} {D : va_G} {G : G3} {ad : Nat → Nat}
def fX11_swing_s40 (n : Nat)    (st : St) : Option (Int64 × St) := some ((-9223372036854775808), st)
set_option maxHeartbeats 4000000 in
set_option maxRecDepth 100000 in
theorem wX11_swing_s40 (C : Cx p s m args meth c cX11_swing 11 wsL_law RX11 (some .long) D G ad) (n : Nat)      (st : St) (res : (Int64 × St))  (hf : fX11_swing_s40 n    st = some res) : At p l e (rmK 2) s m args below meth c D G ad (MQJ D G ad below args s res) 11 st [] 40 [] := by
  obtain ⟨hx, hb, hml, hown, hts, hr, hlk, hK, had, hSt⟩ := id C
  intro H locs ls hl hP hS
  unfold fX11_swing_s40 at hf
  refine lv_ldc2 hx hb hown (hts _ wm_14_15) dX11_swing_40 ?_
  exact g_lret hx hb hr hlk hP hS dX11_swing_43 hf
def fX11_swing_s129 (n : Nat)   (v3 : Int32) (v4 : Int64) (v6 : Int64) (st : St) : Option (Int64 × St) := some ((v3.toInt64 * v6) - (v4 * v4), st)
set_option maxHeartbeats 4000000 in
set_option maxRecDepth 100000 in
theorem wX11_swing_s129 (C : Cx p s m args meth c cX11_swing 11 wsL_law RX11 (some .long) D G ad) (n : Nat)   (v3 : Int32) (v4 : Int64) (v6 : Int64)   (st : St) (res : (Int64 × St))  (hf : fX11_swing_s129 n   v3 v4 v6 st = some res) : At p l e (rmK 2) s m args below meth c D G ad (MQJ D G ad below args s res) 11 st [(3, .int v3), (4, .long v4), (6, .long v6)] 129 [] := by
  obtain ⟨hx, hb, hml, hown, hts, hr, hlk, hK, had, hSt⟩ := id C
  intro H locs ls hl hP hS
  unfold fX11_swing_s129 at hf
  refine lv_iload_n hx hb dX11_swing_129 rfl (lv_at hl 0 rfl) ?_
  refine lv_i2l hx hb dX11_swing_130 rfl ?_
  refine lv_lload hx hb dX11_swing_131 (lv_at hl 2 rfl) ?_
  refine lv_lmul hx hb dX11_swing_133 ?_
  refine lv_lload hx hb dX11_swing_134 (lv_at hl 1 rfl) ?_
  refine lv_lload hx hb dX11_swing_136 (lv_at hl 1 rfl) ?_
  refine lv_lmul hx hb dX11_swing_138 ?_
  refine lv_lsub hx hb dX11_swing_139 ?_
  exact g_lret hx hb hr hlk hP hS dX11_swing_140 hf
def fX11_swing_s104 (n : Nat) (K58 : Int32 → Int32 → Int32 → Int64 → Int64 → Int32 → St → Option (Int64 × St))  (v1 : Int32) (v2 : Int32) (v3 : Int32) (v4 : Int64) (v6 : Int64) (v8 : Int32) (k0 : Int64) (st : St) : Option (Int64 × St) := K58 v1 v2 v3 (v4 + k0) (v6 + (k0 * k0)) (v8 + 1) st
set_option maxHeartbeats 4000000 in
set_option maxRecDepth 100000 in
theorem wX11_swing_s104 (C : Cx p s m args meth c cX11_swing 11 wsL_law RX11 (some .long) D G ad) (n : Nat) (K58 : Int32 → Int32 → Int32 → Int64 → Int64 → Int32 → St → Option (Int64 × St))  (v1 : Int32) (v2 : Int32) (v3 : Int32) (v4 : Int64) (v6 : Int64) (v8 : Int32) (k0 : Int64)   (st : St) (res : (Int64 × St)) (hK58 : ∀ (v1 : Int32) (v2 : Int32) (v3 : Int32) (v4 : Int64) (v6 : Int64) (v8 : Int32) (st : St), K58 v1 v2 v3 v4 v6 v8 st = some res → At p l e (rmK 2) s m args below meth c D G ad (MQJ D G ad below args s res) 11 st [(0, .ref (ad 130)), (1, .int v1), (2, .int v2), (3, .int v3), (4, .long v4), (6, .long v6), (8, .int v8)] 58 []) (hf : fX11_swing_s104 n K58  v1 v2 v3 v4 v6 v8 k0 st = some res) : At p l e (rmK 2) s m args below meth c D G ad (MQJ D G ad below args s res) 11 st [(0, .ref (ad 130)), (1, .int v1), (2, .int v2), (3, .int v3), (4, .long v4), (6, .long v6), (8, .int v8)] 104 [.long k0] := by
  obtain ⟨hx, hb, hml, hown, hts, hr, hlk, hK, had, hSt⟩ := id C
  intro H locs ls hl hP hS
  unfold fX11_swing_s104 at hf
  refine lv_lstore (lv' := [(9, .long k0), (0, .ref (ad 130)), (1, .int v1), (2, .int v2), (3, .int v3), (4, .long v4), (6, .long v6), (8, .int v8)]) hx hb dX11_swing_104 hl (by decide) rfl (fun ls hl => ?_)
  refine lv_lload hx hb dX11_swing_106 (lv_at hl 5 rfl) ?_
  refine lv_lload hx hb dX11_swing_108 (lv_at hl 0 rfl) ?_
  refine lv_ladd hx hb dX11_swing_110 ?_
  refine lv_lstore (lv' := [(4, .long (v4 + k0)), (9, .long k0), (0, .ref (ad 130)), (1, .int v1), (2, .int v2), (3, .int v3), (6, .long v6), (8, .int v8)]) hx hb dX11_swing_111 hl (by decide) rfl (fun ls hl => ?_)
  refine lv_lload hx hb dX11_swing_113 (lv_at hl 6 rfl) ?_
  refine lv_lload hx hb dX11_swing_115 (lv_at hl 1 rfl) ?_
  refine lv_lload hx hb dX11_swing_117 (lv_at hl 1 rfl) ?_
  refine lv_lmul hx hb dX11_swing_119 ?_
  refine lv_ladd hx hb dX11_swing_120 ?_
  refine lv_lstore (lv' := [(6, .long (v6 + (k0 * k0))), (4, .long (v4 + k0)), (9, .long k0), (0, .ref (ad 130)), (1, .int v1), (2, .int v2), (3, .int v3), (8, .int v8)]) hx hb dX11_swing_121 hl (by decide) rfl (fun ls hl => ?_)
  refine lv_iinc (v := v8 + 1) (lv' := [(8, .int (v8 + 1)), (6, .long (v6 + (k0 * k0))), (4, .long (v4 + k0)), (9, .long k0), (0, .ref (ad 130)), (1, .int v1), (2, .int v2), (3, .int v3)]) hx hb dX11_swing_123 hl (k := 7) rfl rfl (by decide) rfl (fun ls hl => ?_)
  refine lv_goto (tgt := 58) hx hb dX11_swing_126 (by decide) ?_
  exact hK58 v1 v2 v3 (v4 + k0) (v6 + (k0 * k0)) (v8 + 1)  st hf H locs ls (lv_sub hl [4, 5, 6, 7, 2, 1, 0] rfl) hP hS
def fX11_swing_s89 (n : Nat) (K58 : Int32 → Int32 → Int32 → Int64 → Int64 → Int32 → St → Option (Int64 × St))  (v1 : Int32) (v2 : Int32) (v3 : Int32) (v4 : Int64) (v6 : Int64) (v8 : Int32) (st : St) : Option (Int64 × St) := if inb ((40 * v1) + (v8 - v8 / 40 * 40)) 320 = true then (fX11_swing_s104 n K58 v1 v2 v3 v4 v6 v8 (st.2 150 ((40 * v1) + (v8 - v8 / 40 * 40)).toNatClampNeg) st) else none
set_option maxHeartbeats 4000000 in
set_option maxRecDepth 100000 in
theorem wX11_swing_s89 (C : Cx p s m args meth c cX11_swing 11 wsL_law RX11 (some .long) D G ad) (n : Nat) (K58 : Int32 → Int32 → Int32 → Int64 → Int64 → Int32 → St → Option (Int64 × St))  (v1 : Int32) (v2 : Int32) (v3 : Int32) (v4 : Int64) (v6 : Int64) (v8 : Int32)   (st : St) (res : (Int64 × St)) (hK58 : ∀ (v1 : Int32) (v2 : Int32) (v3 : Int32) (v4 : Int64) (v6 : Int64) (v8 : Int32) (st : St), K58 v1 v2 v3 v4 v6 v8 st = some res → At p l e (rmK 2) s m args below meth c D G ad (MQJ D G ad below args s res) 11 st [(0, .ref (ad 130)), (1, .int v1), (2, .int v2), (3, .int v3), (4, .long v4), (6, .long v6), (8, .int v8)] 58 []) (hf : fX11_swing_s89 n K58  v1 v2 v3 v4 v6 v8 st = some res) : At p l e (rmK 2) s m args below meth c D G ad (MQJ D G ad below args s res) 11 st [(0, .ref (ad 130)), (1, .int v1), (2, .int v2), (3, .int v3), (4, .long v4), (6, .long v6), (8, .int v8)] 89 [] := by
  obtain ⟨hx, hb, hml, hown, hts, hr, hlk, hK, had, hSt⟩ := id C
  intro H locs ls hl hP hS
  unfold fX11_swing_s89 at hf
  refine lv_aload_n hx hb dX11_swing_89 rfl (lv_at hl 0 rfl) ?_
  refine g_getR hx hb hts inlX11 hown hK hP 130 ct_130 rfl 25 (by decide) (hts _ wm_7_21) rfl dX11_swing_90 ?_
  refine lv_bipush (v := 40) hx hb dX11_swing_93 (by decide) ?_
  refine lv_iload_n hx hb dX11_swing_95 rfl (lv_at hl 1 rfl) ?_
  refine lv_imul hx hb dX11_swing_96 ?_
  refine lv_iload hx hb dX11_swing_97 (lv_at hl 6 rfl) ?_
  refine lv_bipush (v := 40) hx hb dX11_swing_99 (by decide) ?_
  refine lv_irem hx hb dX11_swing_101 (by decide) ?_
  refine lv_iadd hx hb dX11_swing_102 ?_
  obtain ⟨g1, hf⟩ := gd hf
  refine g_lald hx hb hK hP 150 ct_150 g1 dX11_swing_103 ?_
  exact wX11_swing_s104 C n K58 v1 v2 v3 v4 v6 v8 (st.2 150 ((40 * v1) + (v8 - v8 / 40 * 40)).toNatClampNeg) st res hK58 hf H locs ls (lv_sub hl [0, 1, 2, 3, 4, 5, 6] rfl) hP hS
def fX11_swing_s71 (n : Nat) (K58 : Int32 → Int32 → Int32 → Int64 → Int64 → Int32 → St → Option (Int64 × St))  (v1 : Int32) (v2 : Int32) (v3 : Int32) (v4 : Int64) (v6 : Int64) (v8 : Int32) (st : St) : Option (Int64 × St) := if inb ((40 * v1) + (v8 - v8 / 40 * 40)) 320 = true then (fX11_swing_s104 n K58 v1 v2 v3 v4 v6 v8 (st.2 149 ((40 * v1) + (v8 - v8 / 40 * 40)).toNatClampNeg) st) else none
set_option maxHeartbeats 4000000 in
set_option maxRecDepth 100000 in
theorem wX11_swing_s71 (C : Cx p s m args meth c cX11_swing 11 wsL_law RX11 (some .long) D G ad) (n : Nat) (K58 : Int32 → Int32 → Int32 → Int64 → Int64 → Int32 → St → Option (Int64 × St))  (v1 : Int32) (v2 : Int32) (v3 : Int32) (v4 : Int64) (v6 : Int64) (v8 : Int32)   (st : St) (res : (Int64 × St)) (hK58 : ∀ (v1 : Int32) (v2 : Int32) (v3 : Int32) (v4 : Int64) (v6 : Int64) (v8 : Int32) (st : St), K58 v1 v2 v3 v4 v6 v8 st = some res → At p l e (rmK 2) s m args below meth c D G ad (MQJ D G ad below args s res) 11 st [(0, .ref (ad 130)), (1, .int v1), (2, .int v2), (3, .int v3), (4, .long v4), (6, .long v6), (8, .int v8)] 58 []) (hf : fX11_swing_s71 n K58  v1 v2 v3 v4 v6 v8 st = some res) : At p l e (rmK 2) s m args below meth c D G ad (MQJ D G ad below args s res) 11 st [(0, .ref (ad 130)), (1, .int v1), (2, .int v2), (3, .int v3), (4, .long v4), (6, .long v6), (8, .int v8)] 71 [] := by
  obtain ⟨hx, hb, hml, hown, hts, hr, hlk, hK, had, hSt⟩ := id C
  intro H locs ls hl hP hS
  unfold fX11_swing_s71 at hf
  refine lv_aload_n hx hb dX11_swing_71 rfl (lv_at hl 0 rfl) ?_
  refine g_getR hx hb hts inlX11 hown hK hP 130 ct_130 rfl 24 (by decide) (hts _ wm_7_20) rfl dX11_swing_72 ?_
  refine lv_bipush (v := 40) hx hb dX11_swing_75 (by decide) ?_
  refine lv_iload_n hx hb dX11_swing_77 rfl (lv_at hl 1 rfl) ?_
  refine lv_imul hx hb dX11_swing_78 ?_
  refine lv_iload hx hb dX11_swing_79 (lv_at hl 6 rfl) ?_
  refine lv_bipush (v := 40) hx hb dX11_swing_81 (by decide) ?_
  refine lv_irem hx hb dX11_swing_83 (by decide) ?_
  refine lv_iadd hx hb dX11_swing_84 ?_
  obtain ⟨g1, hf⟩ := gd hf
  refine g_lald hx hb hK hP 149 ct_149 g1 dX11_swing_85 ?_
  refine lv_goto (tgt := 104) hx hb dX11_swing_86 (by decide) ?_
  exact wX11_swing_s104 C n K58 v1 v2 v3 v4 v6 v8 (st.2 149 ((40 * v1) + (v8 - v8 / 40 * 40)).toNatClampNeg) st res hK58 hf H locs ls (lv_sub hl [0, 1, 2, 3, 4, 5, 6] rfl) hP hS
def fX11_swing_s67 (n : Nat) (K58 : Int32 → Int32 → Int32 → Int64 → Int64 → Int32 → St → Option (Int64 × St))  (v1 : Int32) (v2 : Int32) (v3 : Int32) (v4 : Int64) (v6 : Int64) (v8 : Int32) (st : St) : Option (Int64 × St) := if v2 = 0 then fX11_swing_s71 n K58 v1 v2 v3 v4 v6 v8 st else fX11_swing_s89 n K58 v1 v2 v3 v4 v6 v8 st
set_option maxHeartbeats 4000000 in
set_option maxRecDepth 100000 in
theorem wX11_swing_s67 (C : Cx p s m args meth c cX11_swing 11 wsL_law RX11 (some .long) D G ad) (n : Nat) (K58 : Int32 → Int32 → Int32 → Int64 → Int64 → Int32 → St → Option (Int64 × St))  (v1 : Int32) (v2 : Int32) (v3 : Int32) (v4 : Int64) (v6 : Int64) (v8 : Int32)   (st : St) (res : (Int64 × St)) (hK58 : ∀ (v1 : Int32) (v2 : Int32) (v3 : Int32) (v4 : Int64) (v6 : Int64) (v8 : Int32) (st : St), K58 v1 v2 v3 v4 v6 v8 st = some res → At p l e (rmK 2) s m args below meth c D G ad (MQJ D G ad below args s res) 11 st [(0, .ref (ad 130)), (1, .int v1), (2, .int v2), (3, .int v3), (4, .long v4), (6, .long v6), (8, .int v8)] 58 []) (hf : fX11_swing_s67 n K58  v1 v2 v3 v4 v6 v8 st = some res) : At p l e (rmK 2) s m args below meth c D G ad (MQJ D G ad below args s res) 11 st [(0, .ref (ad 130)), (1, .int v1), (2, .int v2), (3, .int v3), (4, .long v4), (6, .long v6), (8, .int v8)] 67 [] := by
  obtain ⟨hx, hb, hml, hown, hts, hr, hlk, hK, had, hSt⟩ := id C
  intro H locs ls hl hP hS
  unfold fX11_swing_s67 at hf
  refine lv_iload_n hx hb dX11_swing_67 rfl (lv_at hl 2 rfl) ?_
  refine lv_if_ne (tgt := 89) hx hb dX11_swing_68 (by decide) (fun q => ?_) (fun q => ?_)
  · exact wX11_swing_s89 C n K58 v1 v2 v3 v4 v6 v8 st res hK58 (ie hf q) H locs ls (lv_sub hl [0, 1, 2, 3, 4, 5, 6] rfl) hP hS
  · exact wX11_swing_s71 C n K58 v1 v2 v3 v4 v6 v8 st res hK58 (it hf q) H locs ls (lv_sub hl [0, 1, 2, 3, 4, 5, 6] rfl) hP hS
def fX11_swing_s58 (n : Nat) (K58 : Int32 → Int32 → Int32 → Int64 → Int64 → Int32 → St → Option (Int64 × St))  (v1 : Int32) (v2 : Int32) (v3 : Int32) (v4 : Int64) (v6 : Int64) (v8 : Int32) (st : St) : Option (Int64 × St) := if (st.1 130 12) ≤ v8 then fX11_swing_s129 n v3 v4 v6 st else fX11_swing_s67 n K58 v1 v2 v3 v4 v6 v8 st
set_option maxHeartbeats 4000000 in
set_option maxRecDepth 100000 in
theorem wX11_swing_s58 (C : Cx p s m args meth c cX11_swing 11 wsL_law RX11 (some .long) D G ad) (n : Nat) (K58 : Int32 → Int32 → Int32 → Int64 → Int64 → Int32 → St → Option (Int64 × St))  (v1 : Int32) (v2 : Int32) (v3 : Int32) (v4 : Int64) (v6 : Int64) (v8 : Int32)   (st : St) (res : (Int64 × St)) (hK58 : ∀ (v1 : Int32) (v2 : Int32) (v3 : Int32) (v4 : Int64) (v6 : Int64) (v8 : Int32) (st : St), K58 v1 v2 v3 v4 v6 v8 st = some res → At p l e (rmK 2) s m args below meth c D G ad (MQJ D G ad below args s res) 11 st [(0, .ref (ad 130)), (1, .int v1), (2, .int v2), (3, .int v3), (4, .long v4), (6, .long v6), (8, .int v8)] 58 []) (hf : fX11_swing_s58 n K58  v1 v2 v3 v4 v6 v8 st = some res) : At p l e (rmK 2) s m args below meth c D G ad (MQJ D G ad below args s res) 11 st [(0, .ref (ad 130)), (1, .int v1), (2, .int v2), (3, .int v3), (4, .long v4), (6, .long v6), (8, .int v8)] 58 [] := by
  obtain ⟨hx, hb, hml, hown, hts, hr, hlk, hK, had, hSt⟩ := id C
  intro H locs ls hl hP hS
  unfold fX11_swing_s58 at hf
  refine lv_iload hx hb dX11_swing_58 (lv_at hl 6 rfl) ?_
  refine lv_aload_n hx hb dX11_swing_60 rfl (lv_at hl 0 rfl) ?_
  refine g_getI hx hb hts inlX11 hown hK hP 130 ct_130 rfl 12 (by decide) (hts _ wm_10_15) rfl dX11_swing_61 ?_
  refine lv_icmp_ge (tgt := 129) hx hb dX11_swing_64 (by decide) (fun q => ?_) (fun q => ?_)
  · exact wX11_swing_s129 C n v3 v4 v6 st res (it hf q) H locs ls (lv_sub hl [3, 4, 5] rfl) hP hS
  · exact wX11_swing_s67 C n K58 v1 v2 v3 v4 v6 v8 st res hK58 (ie hf q) H locs ls (lv_sub hl [0, 1, 2, 3, 4, 5, 6] rfl) hP hS
def fX11_swing_L58 (n : Nat)   : Nat → Int32 → Int32 → Int32 → Int64 → Int64 → Int32 → St → Option (Int64 × St)
  | 0, _, _, _, _, _, _, _ => none
  | k + 1, v1, v2, v3, v4, v6, v8, st => fX11_swing_s58 n (fX11_swing_L58 n k)  v1 v2 v3 v4 v6 v8 st
theorem wX11_swing_L58 (C : Cx p s m args meth c cX11_swing 11 wsL_law RX11 (some .long) D G ad) (n : Nat)    (res : (Int64 × St))  : ∀ (k : Nat) (v1 : Int32) (v2 : Int32) (v3 : Int32) (v4 : Int64) (v6 : Int64) (v8 : Int32)  (st : St), fX11_swing_L58 n k v1 v2 v3 v4 v6 v8 st = some res → At p l e (rmK 2) s m args below meth c D G ad (MQJ D G ad below args s res) 11 st [(0, .ref (ad 130)), (1, .int v1), (2, .int v2), (3, .int v3), (4, .long v4), (6, .long v6), (8, .int v8)] 58 [] := by
  intro k
  induction k with
  | zero => intro v1 v2 v3 v4 v6 v8  st h; exact absurd h (by intro q; cases q)
  | succ k ih => intro v1 v2 v3 v4 v6 v8  st h; exact wX11_swing_s58 C n (fX11_swing_L58 n k)  v1 v2 v3 v4 v6 v8   st res ih h
def fX11_swing_s44 (n : Nat)   (v1 : Int32) (v2 : Int32) (v3 : Int32) (st : St) : Option (Int64 × St) := fX11_swing_L58 n n v1 v2 v3 0 0 ((st.1 130 12) - v3) st
set_option maxHeartbeats 4000000 in
set_option maxRecDepth 100000 in
theorem wX11_swing_s44 (C : Cx p s m args meth c cX11_swing 11 wsL_law RX11 (some .long) D G ad) (n : Nat)   (v1 : Int32) (v2 : Int32) (v3 : Int32)   (st : St) (res : (Int64 × St))  (hf : fX11_swing_s44 n   v1 v2 v3 st = some res) : At p l e (rmK 2) s m args below meth c D G ad (MQJ D G ad below args s res) 11 st [(0, .ref (ad 130)), (1, .int v1), (2, .int v2), (3, .int v3)] 44 [] := by
  obtain ⟨hx, hb, hml, hown, hts, hr, hlk, hK, had, hSt⟩ := id C
  intro H locs ls hl hP hS
  unfold fX11_swing_s44 at hf
  refine lv_lconst (v := 0) hx hb dX11_swing_44 (by decide) ?_
  refine lv_lstore (lv' := [(4, .long 0), (0, .ref (ad 130)), (1, .int v1), (2, .int v2), (3, .int v3)]) hx hb dX11_swing_45 hl (by decide) rfl (fun ls hl => ?_)
  refine lv_lconst (v := 0) hx hb dX11_swing_47 (by decide) ?_
  refine lv_lstore (lv' := [(6, .long 0), (4, .long 0), (0, .ref (ad 130)), (1, .int v1), (2, .int v2), (3, .int v3)]) hx hb dX11_swing_48 hl (by decide) rfl (fun ls hl => ?_)
  refine lv_aload_n hx hb dX11_swing_50 rfl (lv_at hl 2 rfl) ?_
  refine g_getI hx hb hts inlX11 hown hK hP 130 ct_130 rfl 12 (by decide) (hts _ wm_10_15) rfl dX11_swing_51 ?_
  refine lv_iload_n hx hb dX11_swing_54 rfl (lv_at hl 5 rfl) ?_
  refine lv_isub hx hb dX11_swing_55 ?_
  refine lv_istore (lv' := [(8, .int ((st.1 130 12) - v3)), (6, .long 0), (4, .long 0), (0, .ref (ad 130)), (1, .int v1), (2, .int v2), (3, .int v3)]) hx hb dX11_swing_56 hl (by decide) rfl (fun ls hl => ?_)
  exact wX11_swing_L58 C n res n v1 v2 v3 0 0 ((st.1 130 12) - v3) st hf H locs ls (lv_sub hl [3, 4, 5, 6, 2, 1, 0] rfl) hP hS
def fX11_swing_s32 (n : Nat)   (v1 : Int32) (v2 : Int32) (v3 : Int32) (st : St) : Option (Int64 × St) := if v3 ≤ (st.1 130 12) then fX11_swing_s44 n v1 v2 v3 st else fX11_swing_s40 n st
set_option maxHeartbeats 4000000 in
set_option maxRecDepth 100000 in
theorem wX11_swing_s32 (C : Cx p s m args meth c cX11_swing 11 wsL_law RX11 (some .long) D G ad) (n : Nat)   (v1 : Int32) (v2 : Int32) (v3 : Int32)   (st : St) (res : (Int64 × St))  (hf : fX11_swing_s32 n   v1 v2 v3 st = some res) : At p l e (rmK 2) s m args below meth c D G ad (MQJ D G ad below args s res) 11 st [(0, .ref (ad 130)), (1, .int v1), (2, .int v2), (3, .int v3)] 32 [] := by
  obtain ⟨hx, hb, hml, hown, hts, hr, hlk, hK, had, hSt⟩ := id C
  intro H locs ls hl hP hS
  unfold fX11_swing_s32 at hf
  refine lv_aload_n hx hb dX11_swing_32 rfl (lv_at hl 0 rfl) ?_
  refine g_getI hx hb hts inlX11 hown hK hP 130 ct_130 rfl 12 (by decide) (hts _ wm_10_15) rfl dX11_swing_33 ?_
  refine lv_iload_n hx hb dX11_swing_36 rfl (lv_at hl 3 rfl) ?_
  refine lv_icmp_ge (tgt := 44) hx hb dX11_swing_37 (by decide) (fun q => ?_) (fun q => ?_)
  · exact wX11_swing_s44 C n v1 v2 v3 st res (it hf q) H locs ls (lv_sub hl [0, 1, 2, 3] rfl) hP hS
  · exact wX11_swing_s40 C n st res (ie hf q) H locs ls (lv_sub hl [] rfl) hP hS
def fX11_swing_s29 (n : Nat)   (v1 : Int32) (v2 : Int32) (v3 : Int32) (k0 : Int32) (st : St) : Option (Int64 × St) := if k0 = 0 then fX11_swing_s40 n st else fX11_swing_s32 n v1 v2 v3 st
set_option maxHeartbeats 4000000 in
set_option maxRecDepth 100000 in
theorem wX11_swing_s29 (C : Cx p s m args meth c cX11_swing 11 wsL_law RX11 (some .long) D G ad) (n : Nat)   (v1 : Int32) (v2 : Int32) (v3 : Int32) (k0 : Int32)   (st : St) (res : (Int64 × St))  (hf : fX11_swing_s29 n   v1 v2 v3 k0 st = some res) : At p l e (rmK 2) s m args below meth c D G ad (MQJ D G ad below args s res) 11 st [(0, .ref (ad 130)), (1, .int v1), (2, .int v2), (3, .int v3)] 29 [.int k0] := by
  obtain ⟨hx, hb, hml, hown, hts, hr, hlk, hK, had, hSt⟩ := id C
  intro H locs ls hl hP hS
  unfold fX11_swing_s29 at hf
  refine lv_if_eq (tgt := 40) hx hb dX11_swing_29 (by decide) (fun q => ?_) (fun q => ?_)
  · exact wX11_swing_s40 C n st res (it hf q) H locs ls (lv_sub hl [] rfl) hP hS
  · exact wX11_swing_s32 C n v1 v2 v3 st res (ie hf q) H locs ls (lv_sub hl [0, 1, 2, 3] rfl) hP hS
def fX11_swing_s18 (n : Nat)   (v1 : Int32) (v2 : Int32) (v3 : Int32) (st : St) : Option (Int64 × St) := (fX11_in n v3.toInt64 2 40 st).bind (fun q => fX11_swing_s29 n v1 v2 v3 q.1 q.2)
set_option maxHeartbeats 4000000 in
set_option maxRecDepth 100000 in
theorem wX11_swing_s18 (C : Cx p s m args meth c cX11_swing 11 wsL_law RX11 (some .long) D G ad) (n : Nat)   (v1 : Int32) (v2 : Int32) (v3 : Int32)   (st : St) (res : (Int64 × St))  (hf : fX11_swing_s18 n   v1 v2 v3 st = some res) : At p l e (rmK 2) s m args below meth c D G ad (MQJ D G ad below args s res) 11 st [(0, .ref (ad 130)), (1, .int v1), (2, .int v2), (3, .int v3)] 18 [] := by
  obtain ⟨hx, hb, hml, hown, hts, hr, hlk, hK, had, hSt⟩ := id C
  intro H locs ls hl hP hS
  unfold fX11_swing_s18 at hf
  refine lv_iload_n hx hb dX11_swing_18 rfl (lv_at hl 3 rfl) ?_
  refine lv_i2l hx hb dX11_swing_19 rfl ?_
  refine lv_ldc2 hx hb hown (hts _ wm_12_15) dX11_swing_20 ?_
  refine lv_ldc2 hx hb hown (hts _ wm_33_0) dX11_swing_23 ?_
  obtain ⟨q, hq, hf⟩ := bd hf
  refine gcS_i (k := 0) (As := [.long v3.toInt64, .long 2, .long 40]) (rest := []) hx hb hml hown hts hK hSt hP hS hl.1 (goodS wm_10_21 wm_10_22 wm_1_5 wm_10_23) okX11_in (Nat.le_of_ble_eq_true rfl) (Nat.le_of_ble_eq_true rfl) rfl rfl (Nat.le_of_ble_eq_true rfl) dX11_swing_26 (kX11_in l D G ad had n  v3.toInt64 2 40 st q hq) (fun H locs hP hS => ?_)
  exact wX11_swing_s29 C n v1 v2 v3 q.1 q.2 res hf H locs ls (lv_sub hl [0, 1, 2, 3] rfl) hP hS
def fX11_swing_s15 (n : Nat)   (v1 : Int32) (v2 : Int32) (v3 : Int32) (k0 : Int32) (st : St) : Option (Int64 × St) := if k0 = 0 then fX11_swing_s40 n st else fX11_swing_s18 n v1 v2 v3 st
set_option maxHeartbeats 4000000 in
set_option maxRecDepth 100000 in
theorem wX11_swing_s15 (C : Cx p s m args meth c cX11_swing 11 wsL_law RX11 (some .long) D G ad) (n : Nat)   (v1 : Int32) (v2 : Int32) (v3 : Int32) (k0 : Int32)   (st : St) (res : (Int64 × St))  (hf : fX11_swing_s15 n   v1 v2 v3 k0 st = some res) : At p l e (rmK 2) s m args below meth c D G ad (MQJ D G ad below args s res) 11 st [(0, .ref (ad 130)), (1, .int v1), (2, .int v2), (3, .int v3)] 15 [.int k0] := by
  obtain ⟨hx, hb, hml, hown, hts, hr, hlk, hK, had, hSt⟩ := id C
  intro H locs ls hl hP hS
  unfold fX11_swing_s15 at hf
  refine lv_if_eq (tgt := 40) hx hb dX11_swing_15 (by decide) (fun q => ?_) (fun q => ?_)
  · exact wX11_swing_s40 C n st res (it hf q) H locs ls (lv_sub hl [] rfl) hP hS
  · exact wX11_swing_s18 C n v1 v2 v3 st res (ie hf q) H locs ls (lv_sub hl [0, 1, 2, 3] rfl) hP hS
def fX11_swing_s8 (n : Nat)   (v1 : Int32) (v2 : Int32) (v3 : Int32) (st : St) : Option (Int64 × St) := (fX11_in n v2.toInt64 0 1 st).bind (fun q => fX11_swing_s15 n v1 v2 v3 q.1 q.2)
set_option maxHeartbeats 4000000 in
set_option maxRecDepth 100000 in
theorem wX11_swing_s8 (C : Cx p s m args meth c cX11_swing 11 wsL_law RX11 (some .long) D G ad) (n : Nat)   (v1 : Int32) (v2 : Int32) (v3 : Int32)   (st : St) (res : (Int64 × St))  (hf : fX11_swing_s8 n   v1 v2 v3 st = some res) : At p l e (rmK 2) s m args below meth c D G ad (MQJ D G ad below args s res) 11 st [(0, .ref (ad 130)), (1, .int v1), (2, .int v2), (3, .int v3)] 8 [] := by
  obtain ⟨hx, hb, hml, hown, hts, hr, hlk, hK, had, hSt⟩ := id C
  intro H locs ls hl hP hS
  unfold fX11_swing_s8 at hf
  refine lv_iload_n hx hb dX11_swing_8 rfl (lv_at hl 2 rfl) ?_
  refine lv_i2l hx hb dX11_swing_9 rfl ?_
  refine lv_lconst (v := 0) hx hb dX11_swing_10 (by decide) ?_
  refine lv_lconst (v := 1) hx hb dX11_swing_11 (by decide) ?_
  obtain ⟨q, hq, hf⟩ := bd hf
  refine gcS_i (k := 0) (As := [.long v2.toInt64, .long 0, .long 1]) (rest := []) hx hb hml hown hts hK hSt hP hS hl.1 (goodS wm_10_21 wm_10_22 wm_1_5 wm_10_23) okX11_in (Nat.le_of_ble_eq_true rfl) (Nat.le_of_ble_eq_true rfl) rfl rfl (Nat.le_of_ble_eq_true rfl) dX11_swing_12 (kX11_in l D G ad had n  v2.toInt64 0 1 st q hq) (fun H locs hP hS => ?_)
  exact wX11_swing_s15 C n v1 v2 v3 q.1 q.2 res hf H locs ls (lv_sub hl [0, 1, 2, 3] rfl) hP hS
def fX11_swing_s5 (n : Nat)   (v1 : Int32) (v2 : Int32) (v3 : Int32) (k0 : Int32) (st : St) : Option (Int64 × St) := if k0 = 0 then fX11_swing_s40 n st else fX11_swing_s8 n v1 v2 v3 st
set_option maxHeartbeats 4000000 in
set_option maxRecDepth 100000 in
theorem wX11_swing_s5 (C : Cx p s m args meth c cX11_swing 11 wsL_law RX11 (some .long) D G ad) (n : Nat)   (v1 : Int32) (v2 : Int32) (v3 : Int32) (k0 : Int32)   (st : St) (res : (Int64 × St))  (hf : fX11_swing_s5 n   v1 v2 v3 k0 st = some res) : At p l e (rmK 2) s m args below meth c D G ad (MQJ D G ad below args s res) 11 st [(0, .ref (ad 130)), (1, .int v1), (2, .int v2), (3, .int v3)] 5 [.int k0] := by
  obtain ⟨hx, hb, hml, hown, hts, hr, hlk, hK, had, hSt⟩ := id C
  intro H locs ls hl hP hS
  unfold fX11_swing_s5 at hf
  refine lv_if_eq (tgt := 40) hx hb dX11_swing_5 (by decide) (fun q => ?_) (fun q => ?_)
  · exact wX11_swing_s40 C n st res (it hf q) H locs ls (lv_sub hl [] rfl) hP hS
  · exact wX11_swing_s8 C n v1 v2 v3 st res (ie hf q) H locs ls (lv_sub hl [0, 1, 2, 3] rfl) hP hS
def fX11_swing_s0 (n : Nat)   (v1 : Int32) (v2 : Int32) (v3 : Int32) (st : St) : Option (Int64 × St) := (fX11_isStage n v1 st).bind (fun q => fX11_swing_s5 n v1 v2 v3 q.1 q.2)
set_option maxHeartbeats 4000000 in
set_option maxRecDepth 100000 in
theorem wX11_swing_s0 (C : Cx p s m args meth c cX11_swing 11 wsL_law RX11 (some .long) D G ad) (n : Nat)   (v1 : Int32) (v2 : Int32) (v3 : Int32)   (st : St) (res : (Int64 × St))  (hf : fX11_swing_s0 n   v1 v2 v3 st = some res) : At p l e (rmK 2) s m args below meth c D G ad (MQJ D G ad below args s res) 11 st [(0, .ref (ad 130)), (1, .int v1), (2, .int v2), (3, .int v3)] 0 [] := by
  obtain ⟨hx, hb, hml, hown, hts, hr, hlk, hK, had, hSt⟩ := id C
  intro H locs ls hl hP hS
  unfold fX11_swing_s0 at hf
  refine lv_aload_n hx hb dX11_swing_0 rfl (lv_at hl 0 rfl) ?_
  refine lv_iload_n hx hb dX11_swing_1 rfl (lv_at hl 1 rfl) ?_
  obtain ⟨q, hq, hf⟩ := bd hf
  refine gcV_i (k := 1) (o := 130) (As := [.int v1]) (rest := []) hx hb hml hown hts hK hSt hP hS hl.1 (goodV wm_10_17 wm_10_18 wm_10_19 wm_1_5 wm_10_20) okX11_isStage ct_130 rfl rfl (Nat.le_of_ble_eq_true rfl) (Nat.le_of_ble_eq_true rfl) rfl rfl (Nat.le_of_ble_eq_true rfl) dX11_swing_2 (kX11_isStage l D G ad had n  v1 st q hq) (fun H locs hP hS => ?_)
  exact wX11_swing_s5 C n v1 v2 v3 q.1 q.2 res hf H locs ls (lv_sub hl [0, 1, 2, 3] rfl) hP hS
def fX11_swing (n : Nat)  (a1 : Int32) (a2 : Int32) (a3 : Int32) (st : St) : Option (Int64 × St) := fX11_swing_s0 n a1 a2 a3 st
theorem okX11_swing : okY yX11_swing RX11 3 := by unfold okY; decide +kernel
end
set_option maxRecDepth 100000 in
theorem kX11_swing (l : Launch) (D : va_G) (G : G3) (ad : Nat → Nat) (had : Adr ad) (n : Nat)   (a1 : Int32) (a2 : Int32) (a3 : Int32) (st : St) (res : (Int64 × St)) (hf : fX11_swing n  a1 a2 a3 st = some res) {sz : Nat} : CtJ l yX11_swing (wsU yX11_swing cX11_swing 11 (some .long)) (rmK 2) D G ad sz [.ref (ad 130), .int a1, .int a2, .int a3] st res := by
  refine Met.ofW (cc := cX11_swing) (maxL := 11) (ret := (some .long)) (by decide) rfl ?_
  intro p e s m args below meth c s₁ B hml hv
  obtain ⟨rfl, hsz, hP, hK, hSt⟩ := hv
  have hts := atoms_spec (ws := wsU yX11_swing cX11_swing 11 (some .long)) B.pre
  have C : Cx p s m _ meth c cX11_swing 11 wsL_law RX11 (some .long) D G ad := ⟨B.exec, B.bytes, hml, findClass_of_methodNamed B.named, fun w h => hts w (List.mem_cons_of_mem _ h), B.returns, B.notSynchronized, hK, had, hSt⟩
  subst hsz
  have hl := lv_entry ([.ref (ad 130), .int a1, .int a2, .int a3]) (n := 11) (Nat.le_of_ble_eq_true rfl)
  rw [lg_entry_eq]
  generalize (lg_sl ([.ref (ad 130), .int a1, .int a2, .int a3]) ++ List.replicate (11 - (lg_sl ([.ref (ad 130), .int a1, .int a2, .int a3])).length) Slot.unset).toArray = ls at hl ⊢
  exact wX11_swing_s0 C n  a1 a2 a3   st res hf s.heap [] ls (lv_sub hl [0, 1, 2, 3] rfl) hP va_S.rf
section
variable {p : Program} {l : Launch} {e : Env} {s : State} {m : MethodId} {args : Array Value} {below : List Frame} {meth : Method} {c : Code} {D : va_G} {G : G3} {ad : Nat → Nat}
def fX11_divisor_s53 (n : Nat)   (v4 : Int64) (st : St) : Option (Int64 × St) := some (v4, st)
set_option maxHeartbeats 4000000 in
set_option maxRecDepth 100000 in
theorem wX11_divisor_s53 (C : Cx p s m args meth c cX11_divisor 10 wsL_law RX11 (some .long) D G ad) (n : Nat)   (v4 : Int64)   (st : St) (res : (Int64 × St))  (hf : fX11_divisor_s53 n   v4 st = some res) : At p l e (rmK 0) s m args below meth c D G ad (MQJ D G ad below args s res) 10 st [(4, .long v4)] 53 [] := by
  obtain ⟨hx, hb, hml, hown, hts, hr, hlk, hK, had, hSt⟩ := id C
  intro H locs ls hl hP hS
  unfold fX11_divisor_s53 at hf
  refine lv_lload hx hb dX11_divisor_53 (lv_at hl 0 rfl) ?_
  exact g_lret hx hb hr hlk hP hS dX11_divisor_55 hf
def fX11_divisor_s35 (n : Nat) (K28 : Int64 → Int64 → St → Option (Int64 × St))  (v4 : Int64) (v6 : Int64) (st : St) : Option (Int64 × St) := if v6 = 0 then none else (K28 v6 (v4 - v4 / v6 * v6) st)
set_option maxHeartbeats 4000000 in
set_option maxRecDepth 100000 in
theorem wX11_divisor_s35 (C : Cx p s m args meth c cX11_divisor 10 wsL_law RX11 (some .long) D G ad) (n : Nat) (K28 : Int64 → Int64 → St → Option (Int64 × St))  (v4 : Int64) (v6 : Int64)   (st : St) (res : (Int64 × St)) (hK28 : ∀ (v4 : Int64) (v6 : Int64) (st : St), K28 v4 v6 st = some res → At p l e (rmK 0) s m args below meth c D G ad (MQJ D G ad below args s res) 10 st [(4, .long v4), (6, .long v6)] 28 []) (hf : fX11_divisor_s35 n K28  v4 v6 st = some res) : At p l e (rmK 0) s m args below meth c D G ad (MQJ D G ad below args s res) 10 st [(4, .long v4), (6, .long v6)] 35 [] := by
  obtain ⟨hx, hb, hml, hown, hts, hr, hlk, hK, had, hSt⟩ := id C
  intro H locs ls hl hP hS
  unfold fX11_divisor_s35 at hf
  refine lv_lload hx hb dX11_divisor_35 (lv_at hl 0 rfl) ?_
  refine lv_lload hx hb dX11_divisor_37 (lv_at hl 1 rfl) ?_
  obtain ⟨g1, hf⟩ := gn hf
  refine lv_lrem hx hb dX11_divisor_39 g1 ?_
  refine lv_lstore (lv' := [(8, .long (v4 - v4 / v6 * v6)), (4, .long v4), (6, .long v6)]) hx hb dX11_divisor_40 hl (by decide) rfl (fun ls hl => ?_)
  refine lv_lload hx hb dX11_divisor_42 (lv_at hl 2 rfl) ?_
  refine lv_lstore (lv' := [(4, .long v6), (8, .long (v4 - v4 / v6 * v6)), (6, .long v6)]) hx hb dX11_divisor_44 hl (by decide) rfl (fun ls hl => ?_)
  refine lv_lload hx hb dX11_divisor_46 (lv_at hl 1 rfl) ?_
  refine lv_lstore (lv' := [(6, .long (v4 - v4 / v6 * v6)), (4, .long v6), (8, .long (v4 - v4 / v6 * v6))]) hx hb dX11_divisor_48 hl (by decide) rfl (fun ls hl => ?_)
  refine lv_goto (tgt := 28) hx hb dX11_divisor_50 (by decide) ?_
  exact hK28 v6 (v4 - v4 / v6 * v6)  st hf H locs ls (lv_sub hl [1, 0] rfl) hP hS
def fX11_divisor_s28 (n : Nat) (K28 : Int64 → Int64 → St → Option (Int64 × St))  (v4 : Int64) (v6 : Int64) (st : St) : Option (Int64 × St) := if v6 = 0 then fX11_divisor_s53 n v4 st else fX11_divisor_s35 n K28 v4 v6 st
set_option maxHeartbeats 4000000 in
set_option maxRecDepth 100000 in
theorem wX11_divisor_s28 (C : Cx p s m args meth c cX11_divisor 10 wsL_law RX11 (some .long) D G ad) (n : Nat) (K28 : Int64 → Int64 → St → Option (Int64 × St))  (v4 : Int64) (v6 : Int64)   (st : St) (res : (Int64 × St)) (hK28 : ∀ (v4 : Int64) (v6 : Int64) (st : St), K28 v4 v6 st = some res → At p l e (rmK 0) s m args below meth c D G ad (MQJ D G ad below args s res) 10 st [(4, .long v4), (6, .long v6)] 28 []) (hf : fX11_divisor_s28 n K28  v4 v6 st = some res) : At p l e (rmK 0) s m args below meth c D G ad (MQJ D G ad below args s res) 10 st [(4, .long v4), (6, .long v6)] 28 [] := by
  obtain ⟨hx, hb, hml, hown, hts, hr, hlk, hK, had, hSt⟩ := id C
  intro H locs ls hl hP hS
  unfold fX11_divisor_s28 at hf
  refine lv_lload hx hb dX11_divisor_28 (lv_at hl 1 rfl) ?_
  refine lv_lconst (v := 0) hx hb dX11_divisor_30 (by decide) ?_
  refine g_lcmp_eq (tgt := 53) hx hb dX11_divisor_31 dX11_divisor_32 (by decide) (fun q => ?_) (fun q => ?_)
  · exact wX11_divisor_s53 C n v4 st res (it hf q) H locs ls (lv_sub hl [0] rfl) hP hS
  · exact wX11_divisor_s35 C n K28 v4 v6 st res hK28 (ie hf q) H locs ls (lv_sub hl [0, 1] rfl) hP hS
def fX11_divisor_L28 (n : Nat)   : Nat → Int64 → Int64 → St → Option (Int64 × St)
  | 0, _, _, _ => none
  | k + 1, v4, v6, st => fX11_divisor_s28 n (fX11_divisor_L28 n k)  v4 v6 st
theorem wX11_divisor_L28 (C : Cx p s m args meth c cX11_divisor 10 wsL_law RX11 (some .long) D G ad) (n : Nat)    (res : (Int64 × St))  : ∀ (k : Nat) (v4 : Int64) (v6 : Int64)  (st : St), fX11_divisor_L28 n k v4 v6 st = some res → At p l e (rmK 0) s m args below meth c D G ad (MQJ D G ad below args s res) 10 st [(4, .long v4), (6, .long v6)] 28 [] := by
  intro k
  induction k with
  | zero => intro v4 v6  st h; exact absurd h (by intro q; cases q)
  | succ k ih => intro v4 v6  st h; exact wX11_divisor_s28 C n (fX11_divisor_L28 n k)  v4 v6   st res ih h
def fX11_divisor_s26 (n : Nat)   (v4 : Int64) (k0 : Int64) (st : St) : Option (Int64 × St) := fX11_divisor_L28 n n v4 k0 st
set_option maxHeartbeats 4000000 in
set_option maxRecDepth 100000 in
theorem wX11_divisor_s26 (C : Cx p s m args meth c cX11_divisor 10 wsL_law RX11 (some .long) D G ad) (n : Nat)   (v4 : Int64) (k0 : Int64)   (st : St) (res : (Int64 × St))  (hf : fX11_divisor_s26 n   v4 k0 st = some res) : At p l e (rmK 0) s m args below meth c D G ad (MQJ D G ad below args s res) 10 st [(4, .long v4)] 26 [.long k0] := by
  obtain ⟨hx, hb, hml, hown, hts, hr, hlk, hK, had, hSt⟩ := id C
  intro H locs ls hl hP hS
  unfold fX11_divisor_s26 at hf
  refine lv_lstore (lv' := [(6, .long k0), (4, .long v4)]) hx hb dX11_divisor_26 hl (by decide) rfl (fun ls hl => ?_)
  exact wX11_divisor_L28 C n res n v4 k0 st hf H locs ls (lv_sub hl [1, 0] rfl) hP hS
def fX11_divisor_s25 (n : Nat)   (v2 : Int64) (v4 : Int64) (st : St) : Option (Int64 × St) := fX11_divisor_s26 n v4 v2 st
set_option maxHeartbeats 4000000 in
set_option maxRecDepth 100000 in
theorem wX11_divisor_s25 (C : Cx p s m args meth c cX11_divisor 10 wsL_law RX11 (some .long) D G ad) (n : Nat)   (v2 : Int64) (v4 : Int64)   (st : St) (res : (Int64 × St))  (hf : fX11_divisor_s25 n   v2 v4 st = some res) : At p l e (rmK 0) s m args below meth c D G ad (MQJ D G ad below args s res) 10 st [(2, .long v2), (4, .long v4)] 25 [] := by
  obtain ⟨hx, hb, hml, hown, hts, hr, hlk, hK, had, hSt⟩ := id C
  intro H locs ls hl hP hS
  unfold fX11_divisor_s25 at hf
  refine lv_lload_n hx hb dX11_divisor_25 rfl (lv_at hl 0 rfl) ?_
  exact wX11_divisor_s26 C n v4 v2 st res hf H locs ls (lv_sub hl [1] rfl) hP hS
def fX11_divisor_s20 (n : Nat)   (v2 : Int64) (v4 : Int64) (st : St) : Option (Int64 × St) := fX11_divisor_s26 n v4 (-v2) st
set_option maxHeartbeats 4000000 in
set_option maxRecDepth 100000 in
theorem wX11_divisor_s20 (C : Cx p s m args meth c cX11_divisor 10 wsL_law RX11 (some .long) D G ad) (n : Nat)   (v2 : Int64) (v4 : Int64)   (st : St) (res : (Int64 × St))  (hf : fX11_divisor_s20 n   v2 v4 st = some res) : At p l e (rmK 0) s m args below meth c D G ad (MQJ D G ad below args s res) 10 st [(2, .long v2), (4, .long v4)] 20 [] := by
  obtain ⟨hx, hb, hml, hown, hts, hr, hlk, hK, had, hSt⟩ := id C
  intro H locs ls hl hP hS
  unfold fX11_divisor_s20 at hf
  refine lv_lload_n hx hb dX11_divisor_20 rfl (lv_at hl 0 rfl) ?_
  refine lv_lneg hx hb dX11_divisor_21 ?_
  refine lv_goto (tgt := 26) hx hb dX11_divisor_22 (by decide) ?_
  exact wX11_divisor_s26 C n v4 (-v2) st res hf H locs ls (lv_sub hl [1] rfl) hP hS
def fX11_divisor_s12 (n : Nat)   (v2 : Int64) (k0 : Int64) (st : St) : Option (Int64 × St) := if 0 ≤ v2 then fX11_divisor_s25 n v2 k0 st else fX11_divisor_s20 n v2 k0 st
set_option maxHeartbeats 4000000 in
set_option maxRecDepth 100000 in
theorem wX11_divisor_s12 (C : Cx p s m args meth c cX11_divisor 10 wsL_law RX11 (some .long) D G ad) (n : Nat)   (v2 : Int64) (k0 : Int64)   (st : St) (res : (Int64 × St))  (hf : fX11_divisor_s12 n   v2 k0 st = some res) : At p l e (rmK 0) s m args below meth c D G ad (MQJ D G ad below args s res) 10 st [(2, .long v2)] 12 [.long k0] := by
  obtain ⟨hx, hb, hml, hown, hts, hr, hlk, hK, had, hSt⟩ := id C
  intro H locs ls hl hP hS
  unfold fX11_divisor_s12 at hf
  refine lv_lstore (lv' := [(4, .long k0), (2, .long v2)]) hx hb dX11_divisor_12 hl (by decide) rfl (fun ls hl => ?_)
  refine lv_lload_n hx hb dX11_divisor_14 rfl (lv_at hl 1 rfl) ?_
  refine lv_lconst (v := 0) hx hb dX11_divisor_15 (by decide) ?_
  refine g_lcmp_ge (tgt := 25) hx hb dX11_divisor_16 dX11_divisor_17 (by decide) (fun q => ?_) (fun q => ?_)
  · exact wX11_divisor_s25 C n v2 k0 st res (it hf q) H locs ls (lv_sub hl [1, 0] rfl) hP hS
  · exact wX11_divisor_s20 C n v2 k0 st res (ie hf q) H locs ls (lv_sub hl [1, 0] rfl) hP hS
def fX11_divisor_s11 (n : Nat)   (v0 : Int64) (v2 : Int64) (st : St) : Option (Int64 × St) := fX11_divisor_s12 n v2 v0 st
set_option maxHeartbeats 4000000 in
set_option maxRecDepth 100000 in
theorem wX11_divisor_s11 (C : Cx p s m args meth c cX11_divisor 10 wsL_law RX11 (some .long) D G ad) (n : Nat)   (v0 : Int64) (v2 : Int64)   (st : St) (res : (Int64 × St))  (hf : fX11_divisor_s11 n   v0 v2 st = some res) : At p l e (rmK 0) s m args below meth c D G ad (MQJ D G ad below args s res) 10 st [(0, .long v0), (2, .long v2)] 11 [] := by
  obtain ⟨hx, hb, hml, hown, hts, hr, hlk, hK, had, hSt⟩ := id C
  intro H locs ls hl hP hS
  unfold fX11_divisor_s11 at hf
  refine lv_lload_n hx hb dX11_divisor_11 rfl (lv_at hl 0 rfl) ?_
  exact wX11_divisor_s12 C n v2 v0 st res hf H locs ls (lv_sub hl [1] rfl) hP hS
def fX11_divisor_s6 (n : Nat)   (v0 : Int64) (v2 : Int64) (st : St) : Option (Int64 × St) := fX11_divisor_s12 n v2 (-v0) st
set_option maxHeartbeats 4000000 in
set_option maxRecDepth 100000 in
theorem wX11_divisor_s6 (C : Cx p s m args meth c cX11_divisor 10 wsL_law RX11 (some .long) D G ad) (n : Nat)   (v0 : Int64) (v2 : Int64)   (st : St) (res : (Int64 × St))  (hf : fX11_divisor_s6 n   v0 v2 st = some res) : At p l e (rmK 0) s m args below meth c D G ad (MQJ D G ad below args s res) 10 st [(0, .long v0), (2, .long v2)] 6 [] := by
  obtain ⟨hx, hb, hml, hown, hts, hr, hlk, hK, had, hSt⟩ := id C
  intro H locs ls hl hP hS
  unfold fX11_divisor_s6 at hf
  refine lv_lload_n hx hb dX11_divisor_6 rfl (lv_at hl 0 rfl) ?_
  refine lv_lneg hx hb dX11_divisor_7 ?_
  refine lv_goto (tgt := 12) hx hb dX11_divisor_8 (by decide) ?_
  exact wX11_divisor_s12 C n v2 (-v0) st res hf H locs ls (lv_sub hl [1] rfl) hP hS
def fX11_divisor_s0 (n : Nat)   (v0 : Int64) (v2 : Int64) (st : St) : Option (Int64 × St) := if 0 ≤ v0 then fX11_divisor_s11 n v0 v2 st else fX11_divisor_s6 n v0 v2 st
set_option maxHeartbeats 4000000 in
set_option maxRecDepth 100000 in
theorem wX11_divisor_s0 (C : Cx p s m args meth c cX11_divisor 10 wsL_law RX11 (some .long) D G ad) (n : Nat)   (v0 : Int64) (v2 : Int64)   (st : St) (res : (Int64 × St))  (hf : fX11_divisor_s0 n   v0 v2 st = some res) : At p l e (rmK 0) s m args below meth c D G ad (MQJ D G ad below args s res) 10 st [(0, .long v0), (2, .long v2)] 0 [] := by
  obtain ⟨hx, hb, hml, hown, hts, hr, hlk, hK, had, hSt⟩ := id C
  intro H locs ls hl hP hS
  unfold fX11_divisor_s0 at hf
  refine lv_lload_n hx hb dX11_divisor_0 rfl (lv_at hl 0 rfl) ?_
  refine lv_lconst (v := 0) hx hb dX11_divisor_1 (by decide) ?_
  refine g_lcmp_ge (tgt := 11) hx hb dX11_divisor_2 dX11_divisor_3 (by decide) (fun q => ?_) (fun q => ?_)
  · exact wX11_divisor_s11 C n v0 v2 st res (it hf q) H locs ls (lv_sub hl [0, 1] rfl) hP hS
  · exact wX11_divisor_s6 C n v0 v2 st res (ie hf q) H locs ls (lv_sub hl [0, 1] rfl) hP hS
def fX11_divisor (n : Nat)  (a0 : Int64) (a2 : Int64) (st : St) : Option (Int64 × St) := fX11_divisor_s0 n a0 a2 st
theorem okX11_divisor : okY yX11_divisor RX11 2 := by unfold okY; decide +kernel
end
set_option maxRecDepth 100000 in
theorem kX11_divisor (l : Launch) (D : va_G) (G : G3) (ad : Nat → Nat) (had : Adr ad) (n : Nat)   (a0 : Int64) (a2 : Int64) (st : St) (res : (Int64 × St)) (hf : fX11_divisor n  a0 a2 st = some res) {sz : Nat} : CtJ l yX11_divisor (wsU yX11_divisor cX11_divisor 10 (some .long)) (rmK 0) D G ad sz [.long a0, .long a2] st res := by
  refine Met.ofW (cc := cX11_divisor) (maxL := 10) (ret := (some .long)) (by decide) rfl ?_
  intro p e s m args below meth c s₁ B hml hv
  obtain ⟨rfl, hsz, hP, hK, hSt⟩ := hv
  have hts := atoms_spec (ws := wsU yX11_divisor cX11_divisor 10 (some .long)) B.pre
  have C : Cx p s m _ meth c cX11_divisor 10 wsL_law RX11 (some .long) D G ad := ⟨B.exec, B.bytes, hml, findClass_of_methodNamed B.named, fun w h => hts w (List.mem_cons_of_mem _ h), B.returns, B.notSynchronized, hK, had, hSt⟩
  subst hsz
  have hl := lv_entry ([.long a0, .long a2]) (n := 10) (Nat.le_of_ble_eq_true rfl)
  rw [lg_entry_eq]
  generalize (lg_sl ([.long a0, .long a2]) ++ List.replicate (10 - (lg_sl ([.long a0, .long a2])).length) Slot.unset).toArray = ls at hl ⊢
  exact wX11_divisor_s0 C n  a0 a2   st res hf s.heap [] ls (lv_sub hl [0, 1] rfl) hP va_S.rf
section
variable {p : Program} {l : Launch} {e : Env} {s : State} {m : MethodId} {args : Array Value} {below : List Frame} {meth : Method} {c : Code} {D : va_G} {G : G3} {ad : Nat → Nat}
def fX11_gain_s35 (n : Nat)    (st : St) : Option (Int64 × St) := some ((-9223372036854775808), st)
set_option maxHeartbeats 4000000 in
set_option maxRecDepth 100000 in
theorem wX11_gain_s35 (C : Cx p s m args meth c cX11_gain 10 wsL_law RX11 (some .long) D G ad) (n : Nat)      (st : St) (res : (Int64 × St))  (hf : fX11_gain_s35 n    st = some res) : At p l e (rmK 3) s m args below meth c D G ad (MQJ D G ad below args s res) 10 st [] 35 [] := by
  obtain ⟨hx, hb, hml, hown, hts, hr, hlk, hK, had, hSt⟩ := id C
  intro H locs ls hl hP hS
  unfold fX11_gain_s35 at hf
  refine lv_ldc2 hx hb hown (hts _ wm_14_15) dX11_gain_35 ?_
  exact g_lret hx hb hr hlk hP hS dX11_gain_38 hf
def fX11_gain_s104 (n : Nat)   (k0 : Int64) (st : St) : Option (Int64 × St) := some (k0, st)
set_option maxHeartbeats 4000000 in
set_option maxRecDepth 100000 in
theorem wX11_gain_s104 (C : Cx p s m args meth c cX11_gain 10 wsL_law RX11 (some .long) D G ad) (n : Nat)   (k0 : Int64)   (st : St) (res : (Int64 × St))  (hf : fX11_gain_s104 n   k0 st = some res) : At p l e (rmK 3) s m args below meth c D G ad (MQJ D G ad below args s res) 10 st [] 104 [.long k0] := by
  obtain ⟨hx, hb, hml, hown, hts, hr, hlk, hK, had, hSt⟩ := id C
  intro H locs ls hl hP hS
  unfold fX11_gain_s104 at hf
  exact g_lret hx hb hr hlk hP hS dX11_gain_104 hf
def fX11_gain_s81 (n : Nat)    (st : St) : Option (Int64 × St) := fX11_gain_s104 n (-9223372036854775807) st
set_option maxHeartbeats 4000000 in
set_option maxRecDepth 100000 in
theorem wX11_gain_s81 (C : Cx p s m args meth c cX11_gain 10 wsL_law RX11 (some .long) D G ad) (n : Nat)      (st : St) (res : (Int64 × St))  (hf : fX11_gain_s81 n    st = some res) : At p l e (rmK 3) s m args below meth c D G ad (MQJ D G ad below args s res) 10 st [] 81 [] := by
  obtain ⟨hx, hb, hml, hown, hts, hr, hlk, hK, had, hSt⟩ := id C
  intro H locs ls hl hP hS
  unfold fX11_gain_s81 at hf
  refine lv_ldc2 hx hb hown (hts _ wm_34_7) dX11_gain_81 ?_
  refine lv_goto (tgt := 104) hx hb dX11_gain_84 (by decide) ?_
  exact wX11_gain_s104 C n (-9223372036854775807) st res hf H locs ls (lv_sub hl [] rfl) hP hS
def fX11_gain_s99 (n : Nat)   (v4 : Int64) (v8 : Int64) (st : St) : Option (Int64 × St) := if v8 = 0 then none else (fX11_gain_s104 n (v4 / v8) st)
set_option maxHeartbeats 4000000 in
set_option maxRecDepth 100000 in
theorem wX11_gain_s99 (C : Cx p s m args meth c cX11_gain 10 wsL_law RX11 (some .long) D G ad) (n : Nat)   (v4 : Int64) (v8 : Int64)   (st : St) (res : (Int64 × St))  (hf : fX11_gain_s99 n   v4 v8 st = some res) : At p l e (rmK 3) s m args below meth c D G ad (MQJ D G ad below args s res) 10 st [(4, .long v4), (8, .long v8)] 99 [] := by
  obtain ⟨hx, hb, hml, hown, hts, hr, hlk, hK, had, hSt⟩ := id C
  intro H locs ls hl hP hS
  unfold fX11_gain_s99 at hf
  refine lv_lload hx hb dX11_gain_99 (lv_at hl 0 rfl) ?_
  refine lv_lload hx hb dX11_gain_101 (lv_at hl 1 rfl) ?_
  obtain ⟨g1, hf⟩ := gn hf
  refine lv_ldiv hx hb dX11_gain_103 g1 ?_
  exact wX11_gain_s104 C n (v4 / v8) st res hf H locs ls (lv_sub hl [] rfl) hP hS
def fX11_gain_s91 (n : Nat)   (v6 : Int64) (v8 : Int64) (st : St) : Option (Int64 × St) := if v8 = 0 then none else (fX11_gain_s104 n (v6 / v8) st)
set_option maxHeartbeats 4000000 in
set_option maxRecDepth 100000 in
theorem wX11_gain_s91 (C : Cx p s m args meth c cX11_gain 10 wsL_law RX11 (some .long) D G ad) (n : Nat)   (v6 : Int64) (v8 : Int64)   (st : St) (res : (Int64 × St))  (hf : fX11_gain_s91 n   v6 v8 st = some res) : At p l e (rmK 3) s m args below meth c D G ad (MQJ D G ad below args s res) 10 st [(6, .long v6), (8, .long v8)] 91 [] := by
  obtain ⟨hx, hb, hml, hown, hts, hr, hlk, hK, had, hSt⟩ := id C
  intro H locs ls hl hP hS
  unfold fX11_gain_s91 at hf
  refine lv_lload hx hb dX11_gain_91 (lv_at hl 0 rfl) ?_
  refine lv_lload hx hb dX11_gain_93 (lv_at hl 1 rfl) ?_
  obtain ⟨g1, hf⟩ := gn hf
  refine lv_ldiv hx hb dX11_gain_95 g1 ?_
  refine lv_goto (tgt := 104) hx hb dX11_gain_96 (by decide) ?_
  exact wX11_gain_s104 C n (v6 / v8) st res hf H locs ls (lv_sub hl [] rfl) hP hS
def fX11_gain_s87 (n : Nat)   (v3 : Int32) (v4 : Int64) (v6 : Int64) (v8 : Int64) (st : St) : Option (Int64 × St) := if v3 = 0 then fX11_gain_s91 n v6 v8 st else fX11_gain_s99 n v4 v8 st
set_option maxHeartbeats 4000000 in
set_option maxRecDepth 100000 in
theorem wX11_gain_s87 (C : Cx p s m args meth c cX11_gain 10 wsL_law RX11 (some .long) D G ad) (n : Nat)   (v3 : Int32) (v4 : Int64) (v6 : Int64) (v8 : Int64)   (st : St) (res : (Int64 × St))  (hf : fX11_gain_s87 n   v3 v4 v6 v8 st = some res) : At p l e (rmK 3) s m args below meth c D G ad (MQJ D G ad below args s res) 10 st [(3, .int v3), (4, .long v4), (6, .long v6), (8, .long v8)] 87 [] := by
  obtain ⟨hx, hb, hml, hown, hts, hr, hlk, hK, had, hSt⟩ := id C
  intro H locs ls hl hP hS
  unfold fX11_gain_s87 at hf
  refine lv_iload_n hx hb dX11_gain_87 rfl (lv_at hl 0 rfl) ?_
  refine lv_if_ne (tgt := 99) hx hb dX11_gain_88 (by decide) (fun q => ?_) (fun q => ?_)
  · exact wX11_gain_s99 C n v4 v8 st res (ie hf q) H locs ls (lv_sub hl [1, 3] rfl) hP hS
  · exact wX11_gain_s91 C n v6 v8 st res (it hf q) H locs ls (lv_sub hl [2, 3] rfl) hP hS
def fX11_gain_s69 (n : Nat)   (v3 : Int32) (v4 : Int64) (v6 : Int64) (v8 : Int64) (st : St) : Option (Int64 × St) := if v8 = 0 then none else (if (v4 / v8) ≤ 1000000000 then fX11_gain_s87 n v3 v4 v6 v8 st else fX11_gain_s81 n st)
set_option maxHeartbeats 4000000 in
set_option maxRecDepth 100000 in
theorem wX11_gain_s69 (C : Cx p s m args meth c cX11_gain 10 wsL_law RX11 (some .long) D G ad) (n : Nat)   (v3 : Int32) (v4 : Int64) (v6 : Int64) (v8 : Int64)   (st : St) (res : (Int64 × St))  (hf : fX11_gain_s69 n   v3 v4 v6 v8 st = some res) : At p l e (rmK 3) s m args below meth c D G ad (MQJ D G ad below args s res) 10 st [(3, .int v3), (4, .long v4), (6, .long v6), (8, .long v8)] 69 [] := by
  obtain ⟨hx, hb, hml, hown, hts, hr, hlk, hK, had, hSt⟩ := id C
  intro H locs ls hl hP hS
  unfold fX11_gain_s69 at hf
  refine lv_lload hx hb dX11_gain_69 (lv_at hl 1 rfl) ?_
  refine lv_lload hx hb dX11_gain_71 (lv_at hl 3 rfl) ?_
  obtain ⟨g1, hf⟩ := gn hf
  refine lv_ldiv hx hb dX11_gain_73 g1 ?_
  refine lv_ldc2 hx hb hown (hts _ wm_24_2) dX11_gain_74 ?_
  refine g_lcmp_le (tgt := 87) hx hb dX11_gain_77 dX11_gain_78 (by decide) (fun q => ?_) (fun q => ?_)
  · exact wX11_gain_s87 C n v3 v4 v6 v8 st res (it hf q) H locs ls (lv_sub hl [0, 1, 2, 3] rfl) hP hS
  · exact wX11_gain_s81 C n st res (ie hf q) H locs ls (lv_sub hl [] rfl) hP hS
def fX11_gain_s55 (n : Nat)   (v3 : Int32) (v4 : Int64) (v6 : Int64) (k0 : Int64) (st : St) : Option (Int64 × St) := if k0 = 0 then none else (if 1000000000 < (v6 / k0) then fX11_gain_s81 n st else fX11_gain_s69 n v3 v4 v6 k0 st)
set_option maxHeartbeats 4000000 in
set_option maxRecDepth 100000 in
theorem wX11_gain_s55 (C : Cx p s m args meth c cX11_gain 10 wsL_law RX11 (some .long) D G ad) (n : Nat)   (v3 : Int32) (v4 : Int64) (v6 : Int64) (k0 : Int64)   (st : St) (res : (Int64 × St))  (hf : fX11_gain_s55 n   v3 v4 v6 k0 st = some res) : At p l e (rmK 3) s m args below meth c D G ad (MQJ D G ad below args s res) 10 st [(3, .int v3), (4, .long v4), (6, .long v6)] 55 [.long k0] := by
  obtain ⟨hx, hb, hml, hown, hts, hr, hlk, hK, had, hSt⟩ := id C
  intro H locs ls hl hP hS
  unfold fX11_gain_s55 at hf
  refine lv_lstore (lv' := [(8, .long k0), (3, .int v3), (4, .long v4), (6, .long v6)]) hx hb dX11_gain_55 hl (by decide) rfl (fun ls hl => ?_)
  refine lv_lload hx hb dX11_gain_57 (lv_at hl 3 rfl) ?_
  refine lv_lload hx hb dX11_gain_59 (lv_at hl 0 rfl) ?_
  obtain ⟨g1, hf⟩ := gn hf
  refine lv_ldiv hx hb dX11_gain_61 g1 ?_
  refine lv_ldc2 hx hb hown (hts _ wm_24_2) dX11_gain_62 ?_
  refine g_lcmp_gt (tgt := 81) hx hb dX11_gain_65 dX11_gain_66 (by decide) (fun q => ?_) (fun q => ?_)
  · exact wX11_gain_s81 C n st res (it hf q) H locs ls (lv_sub hl [] rfl) hP hS
  · exact wX11_gain_s69 C n v3 v4 v6 k0 st res (ie hf q) H locs ls (lv_sub hl [1, 2, 3, 0] rfl) hP hS
def fX11_gain_s46 (n : Nat)   (v3 : Int32) (v4 : Int64) (k0 : Int64) (st : St) : Option (Int64 × St) := (fX11_divisor n k0 v4 st).bind (fun q => fX11_gain_s55 n v3 v4 k0 q.1 q.2)
set_option maxHeartbeats 4000000 in
set_option maxRecDepth 100000 in
theorem wX11_gain_s46 (C : Cx p s m args meth c cX11_gain 10 wsL_law RX11 (some .long) D G ad) (n : Nat)   (v3 : Int32) (v4 : Int64) (k0 : Int64)   (st : St) (res : (Int64 × St))  (hf : fX11_gain_s46 n   v3 v4 k0 st = some res) : At p l e (rmK 3) s m args below meth c D G ad (MQJ D G ad below args s res) 10 st [(3, .int v3), (4, .long v4)] 46 [.long k0] := by
  obtain ⟨hx, hb, hml, hown, hts, hr, hlk, hK, had, hSt⟩ := id C
  intro H locs ls hl hP hS
  unfold fX11_gain_s46 at hf
  refine lv_lstore (lv' := [(6, .long k0), (3, .int v3), (4, .long v4)]) hx hb dX11_gain_46 hl (by decide) rfl (fun ls hl => ?_)
  refine lv_lload hx hb dX11_gain_48 (lv_at hl 0 rfl) ?_
  refine lv_lload hx hb dX11_gain_50 (lv_at hl 2 rfl) ?_
  obtain ⟨q, hq, hf⟩ := bd hf
  refine gcS_j (k := 0) (As := [.long k0, .long v4]) (rest := []) hx hb hml hown hts hK hSt hP hS hl.1 (goodS wm_34_9 wm_34_10 wm_1_5 wm_34_11) okX11_divisor (Nat.le_of_ble_eq_true rfl) (Nat.le_of_ble_eq_true rfl) rfl rfl (Nat.le_of_ble_eq_true rfl) dX11_gain_52 (kX11_divisor l D G ad had n  k0 v4 st q hq) (fun H locs hP hS => ?_)
  exact wX11_gain_s55 C n v3 v4 k0 q.1 q.2 res hf H locs ls (lv_sub hl [1, 2, 0] rfl) hP hS
def fX11_gain_s39 (n : Nat)   (v1 : Int32) (v2 : Int32) (v3 : Int32) (v4 : Int64) (st : St) : Option (Int64 × St) := (fX11_swing n v1 1 v2 st).bind (fun q => fX11_gain_s46 n v3 v4 q.1 q.2)
set_option maxHeartbeats 4000000 in
set_option maxRecDepth 100000 in
theorem wX11_gain_s39 (C : Cx p s m args meth c cX11_gain 10 wsL_law RX11 (some .long) D G ad) (n : Nat)   (v1 : Int32) (v2 : Int32) (v3 : Int32) (v4 : Int64)   (st : St) (res : (Int64 × St))  (hf : fX11_gain_s39 n   v1 v2 v3 v4 st = some res) : At p l e (rmK 3) s m args below meth c D G ad (MQJ D G ad below args s res) 10 st [(0, .ref (ad 130)), (1, .int v1), (2, .int v2), (3, .int v3), (4, .long v4)] 39 [] := by
  obtain ⟨hx, hb, hml, hown, hts, hr, hlk, hK, had, hSt⟩ := id C
  intro H locs ls hl hP hS
  unfold fX11_gain_s39 at hf
  refine lv_aload_n hx hb dX11_gain_39 rfl (lv_at hl 0 rfl) ?_
  refine lv_iload_n hx hb dX11_gain_40 rfl (lv_at hl 1 rfl) ?_
  refine lv_iconst (v := 1) hx hb dX11_gain_41 (by decide) ?_
  refine lv_iload_n hx hb dX11_gain_42 rfl (lv_at hl 2 rfl) ?_
  obtain ⟨q, hq, hf⟩ := bd hf
  refine gcV_j (k := 2) (o := 130) (As := [.int v1, .int 1, .int v2]) (rest := []) hx hb hml hown hts hK hSt hP hS hl.1 (goodV wm_34_8 wm_32_21 wm_32_22 wm_1_5 wm_32_23) okX11_swing ct_130 rfl rfl (Nat.le_of_ble_eq_true rfl) (Nat.le_of_ble_eq_true rfl) rfl rfl (Nat.le_of_ble_eq_true rfl) dX11_gain_43 (kX11_swing l D G ad had n  v1 1 v2 st q hq) (fun H locs hP hS => ?_)
  exact wX11_gain_s46 C n v3 v4 q.1 q.2 res hf H locs ls (lv_sub hl [3, 4] rfl) hP hS
def fX11_gain_s32 (n : Nat)   (v1 : Int32) (v2 : Int32) (v3 : Int32) (v4 : Int64) (k0 : Int32) (st : St) : Option (Int64 × St) := if k0 = 0 then fX11_gain_s35 n st else fX11_gain_s39 n v1 v2 v3 v4 st
set_option maxHeartbeats 4000000 in
set_option maxRecDepth 100000 in
theorem wX11_gain_s32 (C : Cx p s m args meth c cX11_gain 10 wsL_law RX11 (some .long) D G ad) (n : Nat)   (v1 : Int32) (v2 : Int32) (v3 : Int32) (v4 : Int64) (k0 : Int32)   (st : St) (res : (Int64 × St))  (hf : fX11_gain_s32 n   v1 v2 v3 v4 k0 st = some res) : At p l e (rmK 3) s m args below meth c D G ad (MQJ D G ad below args s res) 10 st [(0, .ref (ad 130)), (1, .int v1), (2, .int v2), (3, .int v3), (4, .long v4)] 32 [.int k0] := by
  obtain ⟨hx, hb, hml, hown, hts, hr, hlk, hK, had, hSt⟩ := id C
  intro H locs ls hl hP hS
  unfold fX11_gain_s32 at hf
  refine lv_if_ne (tgt := 39) hx hb dX11_gain_32 (by decide) (fun q => ?_) (fun q => ?_)
  · exact wX11_gain_s39 C n v1 v2 v3 v4 st res (ie hf q) H locs ls (lv_sub hl [0, 1, 2, 3, 4] rfl) hP hS
  · exact wX11_gain_s35 C n st res (it hf q) H locs ls (lv_sub hl [] rfl) hP hS
def fX11_gain_s25 (n : Nat)   (v1 : Int32) (v2 : Int32) (v3 : Int32) (v4 : Int64) (st : St) : Option (Int64 × St) := (fX11_in n v3.toInt64 0 1 st).bind (fun q => fX11_gain_s32 n v1 v2 v3 v4 q.1 q.2)
set_option maxHeartbeats 4000000 in
set_option maxRecDepth 100000 in
theorem wX11_gain_s25 (C : Cx p s m args meth c cX11_gain 10 wsL_law RX11 (some .long) D G ad) (n : Nat)   (v1 : Int32) (v2 : Int32) (v3 : Int32) (v4 : Int64)   (st : St) (res : (Int64 × St))  (hf : fX11_gain_s25 n   v1 v2 v3 v4 st = some res) : At p l e (rmK 3) s m args below meth c D G ad (MQJ D G ad below args s res) 10 st [(0, .ref (ad 130)), (1, .int v1), (2, .int v2), (3, .int v3), (4, .long v4)] 25 [] := by
  obtain ⟨hx, hb, hml, hown, hts, hr, hlk, hK, had, hSt⟩ := id C
  intro H locs ls hl hP hS
  unfold fX11_gain_s25 at hf
  refine lv_iload_n hx hb dX11_gain_25 rfl (lv_at hl 3 rfl) ?_
  refine lv_i2l hx hb dX11_gain_26 rfl ?_
  refine lv_lconst (v := 0) hx hb dX11_gain_27 (by decide) ?_
  refine lv_lconst (v := 1) hx hb dX11_gain_28 (by decide) ?_
  obtain ⟨q, hq, hf⟩ := bd hf
  refine gcS_i (k := 0) (As := [.long v3.toInt64, .long 0, .long 1]) (rest := []) hx hb hml hown hts hK hSt hP hS hl.1 (goodS wm_10_21 wm_10_22 wm_1_5 wm_10_23) okX11_in (Nat.le_of_ble_eq_true rfl) (Nat.le_of_ble_eq_true rfl) rfl rfl (Nat.le_of_ble_eq_true rfl) dX11_gain_29 (kX11_in l D G ad had n  v3.toInt64 0 1 st q hq) (fun H locs hP hS => ?_)
  exact wX11_gain_s32 C n v1 v2 v3 v4 q.1 q.2 res hf H locs ls (lv_sub hl [0, 1, 2, 3, 4] rfl) hP hS
def fX11_gain_s18 (n : Nat)   (v1 : Int32) (v2 : Int32) (v3 : Int32) (v4 : Int64) (st : St) : Option (Int64 × St) := if v4 = 0 then fX11_gain_s35 n st else fX11_gain_s25 n v1 v2 v3 v4 st
set_option maxHeartbeats 4000000 in
set_option maxRecDepth 100000 in
theorem wX11_gain_s18 (C : Cx p s m args meth c cX11_gain 10 wsL_law RX11 (some .long) D G ad) (n : Nat)   (v1 : Int32) (v2 : Int32) (v3 : Int32) (v4 : Int64)   (st : St) (res : (Int64 × St))  (hf : fX11_gain_s18 n   v1 v2 v3 v4 st = some res) : At p l e (rmK 3) s m args below meth c D G ad (MQJ D G ad below args s res) 10 st [(0, .ref (ad 130)), (1, .int v1), (2, .int v2), (3, .int v3), (4, .long v4)] 18 [] := by
  obtain ⟨hx, hb, hml, hown, hts, hr, hlk, hK, had, hSt⟩ := id C
  intro H locs ls hl hP hS
  unfold fX11_gain_s18 at hf
  refine lv_lload hx hb dX11_gain_18 (lv_at hl 4 rfl) ?_
  refine lv_lconst (v := 0) hx hb dX11_gain_20 (by decide) ?_
  refine g_lcmp_eq (tgt := 35) hx hb dX11_gain_21 dX11_gain_22 (by decide) (fun q => ?_) (fun q => ?_)
  · exact wX11_gain_s35 C n st res (it hf q) H locs ls (lv_sub hl [] rfl) hP hS
  · exact wX11_gain_s25 C n v1 v2 v3 v4 st res (ie hf q) H locs ls (lv_sub hl [0, 1, 2, 3, 4] rfl) hP hS
def fX11_gain_s7 (n : Nat)   (v1 : Int32) (v2 : Int32) (v3 : Int32) (k0 : Int64) (st : St) : Option (Int64 × St) := if k0 = (-9223372036854775808) then fX11_gain_s35 n st else fX11_gain_s18 n v1 v2 v3 k0 st
set_option maxHeartbeats 4000000 in
set_option maxRecDepth 100000 in
theorem wX11_gain_s7 (C : Cx p s m args meth c cX11_gain 10 wsL_law RX11 (some .long) D G ad) (n : Nat)   (v1 : Int32) (v2 : Int32) (v3 : Int32) (k0 : Int64)   (st : St) (res : (Int64 × St))  (hf : fX11_gain_s7 n   v1 v2 v3 k0 st = some res) : At p l e (rmK 3) s m args below meth c D G ad (MQJ D G ad below args s res) 10 st [(0, .ref (ad 130)), (1, .int v1), (2, .int v2), (3, .int v3)] 7 [.long k0] := by
  obtain ⟨hx, hb, hml, hown, hts, hr, hlk, hK, had, hSt⟩ := id C
  intro H locs ls hl hP hS
  unfold fX11_gain_s7 at hf
  refine lv_lstore (lv' := [(4, .long k0), (0, .ref (ad 130)), (1, .int v1), (2, .int v2), (3, .int v3)]) hx hb dX11_gain_7 hl (by decide) rfl (fun ls hl => ?_)
  refine lv_lload hx hb dX11_gain_9 (lv_at hl 0 rfl) ?_
  refine lv_ldc2 hx hb hown (hts _ wm_14_15) dX11_gain_11 ?_
  refine g_lcmp_eq (tgt := 35) hx hb dX11_gain_14 dX11_gain_15 (by decide) (fun q => ?_) (fun q => ?_)
  · exact wX11_gain_s35 C n st res (it hf q) H locs ls (lv_sub hl [] rfl) hP hS
  · exact wX11_gain_s18 C n v1 v2 v3 k0 st res (ie hf q) H locs ls (lv_sub hl [1, 2, 3, 4, 0] rfl) hP hS
def fX11_gain_s0 (n : Nat)   (v1 : Int32) (v2 : Int32) (v3 : Int32) (st : St) : Option (Int64 × St) := (fX11_swing n v1 0 v2 st).bind (fun q => fX11_gain_s7 n v1 v2 v3 q.1 q.2)
set_option maxHeartbeats 4000000 in
set_option maxRecDepth 100000 in
theorem wX11_gain_s0 (C : Cx p s m args meth c cX11_gain 10 wsL_law RX11 (some .long) D G ad) (n : Nat)   (v1 : Int32) (v2 : Int32) (v3 : Int32)   (st : St) (res : (Int64 × St))  (hf : fX11_gain_s0 n   v1 v2 v3 st = some res) : At p l e (rmK 3) s m args below meth c D G ad (MQJ D G ad below args s res) 10 st [(0, .ref (ad 130)), (1, .int v1), (2, .int v2), (3, .int v3)] 0 [] := by
  obtain ⟨hx, hb, hml, hown, hts, hr, hlk, hK, had, hSt⟩ := id C
  intro H locs ls hl hP hS
  unfold fX11_gain_s0 at hf
  refine lv_aload_n hx hb dX11_gain_0 rfl (lv_at hl 0 rfl) ?_
  refine lv_iload_n hx hb dX11_gain_1 rfl (lv_at hl 1 rfl) ?_
  refine lv_iconst (v := 0) hx hb dX11_gain_2 (by decide) ?_
  refine lv_iload_n hx hb dX11_gain_3 rfl (lv_at hl 2 rfl) ?_
  obtain ⟨q, hq, hf⟩ := bd hf
  refine gcV_j (k := 2) (o := 130) (As := [.int v1, .int 0, .int v2]) (rest := []) hx hb hml hown hts hK hSt hP hS hl.1 (goodV wm_34_8 wm_32_21 wm_32_22 wm_1_5 wm_32_23) okX11_swing ct_130 rfl rfl (Nat.le_of_ble_eq_true rfl) (Nat.le_of_ble_eq_true rfl) rfl rfl (Nat.le_of_ble_eq_true rfl) dX11_gain_4 (kX11_swing l D G ad had n  v1 0 v2 st q hq) (fun H locs hP hS => ?_)
  exact wX11_gain_s7 C n v1 v2 v3 q.1 q.2 res hf H locs ls (lv_sub hl [0, 1, 2, 3] rfl) hP hS
def fX11_gain (n : Nat)  (a1 : Int32) (a2 : Int32) (a3 : Int32) (st : St) : Option (Int64 × St) := fX11_gain_s0 n a1 a2 a3 st
theorem okX11_gain : okY yX11_gain RX11 3 := by unfold okY; decide +kernel
end
set_option maxRecDepth 100000 in
theorem kX11_gain (l : Launch) (D : va_G) (G : G3) (ad : Nat → Nat) (had : Adr ad) (n : Nat)   (a1 : Int32) (a2 : Int32) (a3 : Int32) (st : St) (res : (Int64 × St)) (hf : fX11_gain n  a1 a2 a3 st = some res) {sz : Nat} : CtJ l yX11_gain (wsU yX11_gain cX11_gain 10 (some .long)) (rmK 3) D G ad sz [.ref (ad 130), .int a1, .int a2, .int a3] st res := by
  refine Met.ofW (cc := cX11_gain) (maxL := 10) (ret := (some .long)) (by decide) rfl ?_
  intro p e s m args below meth c s₁ B hml hv
  obtain ⟨rfl, hsz, hP, hK, hSt⟩ := hv
  have hts := atoms_spec (ws := wsU yX11_gain cX11_gain 10 (some .long)) B.pre
  have C : Cx p s m _ meth c cX11_gain 10 wsL_law RX11 (some .long) D G ad := ⟨B.exec, B.bytes, hml, findClass_of_methodNamed B.named, fun w h => hts w (List.mem_cons_of_mem _ h), B.returns, B.notSynchronized, hK, had, hSt⟩
  subst hsz
  have hl := lv_entry ([.ref (ad 130), .int a1, .int a2, .int a3]) (n := 10) (Nat.le_of_ble_eq_true rfl)
  rw [lg_entry_eq]
  generalize (lg_sl ([.ref (ad 130), .int a1, .int a2, .int a3]) ++ List.replicate (10 - (lg_sl ([.ref (ad 130), .int a1, .int a2, .int a3])).length) Slot.unset).toArray = ls at hl ⊢
  exact wX11_gain_s0 C n  a1 a2 a3   st res hf s.heap [] ls (lv_sub hl [0, 1, 2, 3] rfl) hP va_S.rf
section
variable {p : Program} {l : Launch} {e : Env} {s : State} {m : MethodId} {args : Array Value} {below : List Frame} {meth : Method} {c : Code} {D : va_G} {G : G3} {ad : Nat → Nat}
def fX11_isPart_s37 (n : Nat)   (k0 : Int32) (st : St) : Option (Int32 × St) := if zb k0 = true then (some (k0, st)) else none
set_option maxHeartbeats 4000000 in
set_option maxRecDepth 100000 in
theorem wX11_isPart_s37 (C : Cx p s m args meth c cX11_isPart 1 wsL_law RX11 (some .boolean) D G ad) (n : Nat)   (k0 : Int32)   (st : St) (res : (Int32 × St))  (hf : fX11_isPart_s37 n   k0 st = some res) : At p l e (rmK 1) s m args below meth c D G ad (MQI D G ad below args s res) 1 st [] 37 [.int k0] := by
  obtain ⟨hx, hb, hml, hown, hts, hr, hlk, hK, had, hSt⟩ := id C
  intro H locs ls hl hP hS
  unfold fX11_isPart_s37 at hf
  obtain ⟨gz, hf⟩ := gd hf
  exact g_zret hx hb hr hlk hP hS (zb_of gz) dX11_isPart_37 hf
def fX11_isPart_s36 (n : Nat)    (st : St) : Option (Int32 × St) := fX11_isPart_s37 n 0 st
set_option maxHeartbeats 4000000 in
set_option maxRecDepth 100000 in
theorem wX11_isPart_s36 (C : Cx p s m args meth c cX11_isPart 1 wsL_law RX11 (some .boolean) D G ad) (n : Nat)      (st : St) (res : (Int32 × St))  (hf : fX11_isPart_s36 n    st = some res) : At p l e (rmK 1) s m args below meth c D G ad (MQI D G ad below args s res) 1 st [] 36 [] := by
  obtain ⟨hx, hb, hml, hown, hts, hr, hlk, hK, had, hSt⟩ := id C
  intro H locs ls hl hP hS
  unfold fX11_isPart_s36 at hf
  refine lv_iconst (v := 0) hx hb dX11_isPart_36 (by decide) ?_
  exact wX11_isPart_s37 C n 0 st res hf H locs ls (lv_sub hl [] rfl) hP hS
def fX11_isPart_s32 (n : Nat)    (st : St) : Option (Int32 × St) := fX11_isPart_s37 n 1 st
set_option maxHeartbeats 4000000 in
set_option maxRecDepth 100000 in
theorem wX11_isPart_s32 (C : Cx p s m args meth c cX11_isPart 1 wsL_law RX11 (some .boolean) D G ad) (n : Nat)      (st : St) (res : (Int32 × St))  (hf : fX11_isPart_s32 n    st = some res) : At p l e (rmK 1) s m args below meth c D G ad (MQI D G ad below args s res) 1 st [] 32 [] := by
  obtain ⟨hx, hb, hml, hown, hts, hr, hlk, hK, had, hSt⟩ := id C
  intro H locs ls hl hP hS
  unfold fX11_isPart_s32 at hf
  refine lv_iconst (v := 1) hx hb dX11_isPart_32 (by decide) ?_
  refine lv_goto (tgt := 37) hx hb dX11_isPart_33 (by decide) ?_
  exact wX11_isPart_s37 C n 1 st res hf H locs ls (lv_sub hl [] rfl) hP hS
def fX11_isPart_s19 (n : Nat)   (v0 : Int32) (st : St) : Option (Int32 × St) := if (2 * (v0 - v0 / 100 * 100)) < (v0 / 100) then fX11_isPart_s36 n st else fX11_isPart_s32 n st
set_option maxHeartbeats 4000000 in
set_option maxRecDepth 100000 in
theorem wX11_isPart_s19 (C : Cx p s m args meth c cX11_isPart 1 wsL_law RX11 (some .boolean) D G ad) (n : Nat)   (v0 : Int32)   (st : St) (res : (Int32 × St))  (hf : fX11_isPart_s19 n   v0 st = some res) : At p l e (rmK 1) s m args below meth c D G ad (MQI D G ad below args s res) 1 st [(0, .int v0)] 19 [] := by
  obtain ⟨hx, hb, hml, hown, hts, hr, hlk, hK, had, hSt⟩ := id C
  intro H locs ls hl hP hS
  unfold fX11_isPart_s19 at hf
  refine lv_iload_n hx hb dX11_isPart_19 rfl (lv_at hl 0 rfl) ?_
  refine lv_bipush (v := 100) hx hb dX11_isPart_20 (by decide) ?_
  refine lv_idiv hx hb dX11_isPart_22 (by decide) ?_
  refine lv_iconst (v := 2) hx hb dX11_isPart_23 (by decide) ?_
  refine lv_iload_n hx hb dX11_isPart_24 rfl (lv_at hl 0 rfl) ?_
  refine lv_bipush (v := 100) hx hb dX11_isPart_25 (by decide) ?_
  refine lv_irem hx hb dX11_isPart_27 (by decide) ?_
  refine lv_imul hx hb dX11_isPart_28 ?_
  refine lv_icmp_gt (tgt := 36) hx hb dX11_isPart_29 (by decide) (fun q => ?_) (fun q => ?_)
  · exact wX11_isPart_s36 C n st res (it hf q) H locs ls (lv_sub hl [] rfl) hP hS
  · exact wX11_isPart_s32 C n st res (ie hf q) H locs ls (lv_sub hl [] rfl) hP hS
def fX11_isPart_s16 (n : Nat)   (v0 : Int32) (k0 : Int32) (st : St) : Option (Int32 × St) := if k0 = 0 then fX11_isPart_s36 n st else fX11_isPart_s19 n v0 st
set_option maxHeartbeats 4000000 in
set_option maxRecDepth 100000 in
theorem wX11_isPart_s16 (C : Cx p s m args meth c cX11_isPart 1 wsL_law RX11 (some .boolean) D G ad) (n : Nat)   (v0 : Int32) (k0 : Int32)   (st : St) (res : (Int32 × St))  (hf : fX11_isPart_s16 n   v0 k0 st = some res) : At p l e (rmK 1) s m args below meth c D G ad (MQI D G ad below args s res) 1 st [(0, .int v0)] 16 [.int k0] := by
  obtain ⟨hx, hb, hml, hown, hts, hr, hlk, hK, had, hSt⟩ := id C
  intro H locs ls hl hP hS
  unfold fX11_isPart_s16 at hf
  refine lv_if_eq (tgt := 36) hx hb dX11_isPart_16 (by decide) (fun q => ?_) (fun q => ?_)
  · exact wX11_isPart_s36 C n st res (it hf q) H locs ls (lv_sub hl [] rfl) hP hS
  · exact wX11_isPart_s19 C n v0 st res (ie hf q) H locs ls (lv_sub hl [0] rfl) hP hS
def fX11_isPart_s4 (n : Nat)   (v0 : Int32) (st : St) : Option (Int32 × St) := (fX11_in n ((v0 - v0 / 100 * 100).toInt64) 1 20 st).bind (fun q => fX11_isPart_s16 n v0 q.1 q.2)
set_option maxHeartbeats 4000000 in
set_option maxRecDepth 100000 in
theorem wX11_isPart_s4 (C : Cx p s m args meth c cX11_isPart 1 wsL_law RX11 (some .boolean) D G ad) (n : Nat)   (v0 : Int32)   (st : St) (res : (Int32 × St))  (hf : fX11_isPart_s4 n   v0 st = some res) : At p l e (rmK 1) s m args below meth c D G ad (MQI D G ad below args s res) 1 st [(0, .int v0)] 4 [] := by
  obtain ⟨hx, hb, hml, hown, hts, hr, hlk, hK, had, hSt⟩ := id C
  intro H locs ls hl hP hS
  unfold fX11_isPart_s4 at hf
  refine lv_iload_n hx hb dX11_isPart_4 rfl (lv_at hl 0 rfl) ?_
  refine lv_bipush (v := 100) hx hb dX11_isPart_5 (by decide) ?_
  refine lv_irem hx hb dX11_isPart_7 (by decide) ?_
  refine lv_i2l hx hb dX11_isPart_8 rfl ?_
  refine lv_lconst (v := 1) hx hb dX11_isPart_9 (by decide) ?_
  refine lv_ldc2 hx hb hown (hts _ wm_24_15) dX11_isPart_10 ?_
  obtain ⟨q, hq, hf⟩ := bd hf
  refine gcS_i (k := 0) (As := [.long ((v0 - v0 / 100 * 100).toInt64), .long 1, .long 20]) (rest := []) hx hb hml hown hts hK hSt hP hS hl.1 (goodS wm_10_21 wm_10_22 wm_1_5 wm_10_23) okX11_in (Nat.le_of_ble_eq_true rfl) (Nat.le_of_ble_eq_true rfl) rfl rfl (Nat.le_of_ble_eq_true rfl) dX11_isPart_13 (kX11_in l D G ad had n  ((v0 - v0 / 100 * 100).toInt64) 1 20 st q hq) (fun H locs hP hS => ?_)
  exact wX11_isPart_s16 C n v0 q.1 q.2 res hf H locs ls (lv_sub hl [0] rfl) hP hS
def fX11_isPart_s0 (n : Nat)   (v0 : Int32) (st : St) : Option (Int32 × St) := if v0 < 0 then fX11_isPart_s36 n st else fX11_isPart_s4 n v0 st
set_option maxHeartbeats 4000000 in
set_option maxRecDepth 100000 in
theorem wX11_isPart_s0 (C : Cx p s m args meth c cX11_isPart 1 wsL_law RX11 (some .boolean) D G ad) (n : Nat)   (v0 : Int32)   (st : St) (res : (Int32 × St))  (hf : fX11_isPart_s0 n   v0 st = some res) : At p l e (rmK 1) s m args below meth c D G ad (MQI D G ad below args s res) 1 st [(0, .int v0)] 0 [] := by
  obtain ⟨hx, hb, hml, hown, hts, hr, hlk, hK, had, hSt⟩ := id C
  intro H locs ls hl hP hS
  unfold fX11_isPart_s0 at hf
  refine lv_iload_n hx hb dX11_isPart_0 rfl (lv_at hl 0 rfl) ?_
  refine lv_if_lt (tgt := 36) hx hb dX11_isPart_1 (by decide) (fun q => ?_) (fun q => ?_)
  · exact wX11_isPart_s36 C n st res (it hf q) H locs ls (lv_sub hl [] rfl) hP hS
  · exact wX11_isPart_s4 C n v0 st res (ie hf q) H locs ls (lv_sub hl [0] rfl) hP hS
def fX11_isPart (n : Nat)  (a0 : Int32) (st : St) : Option (Int32 × St) := fX11_isPart_s0 n a0 st
theorem okX11_isPart : okY yX11_isPart RX11 1 := by unfold okY; decide +kernel
end
set_option maxRecDepth 100000 in
theorem kX11_isPart (l : Launch) (D : va_G) (G : G3) (ad : Nat → Nat) (had : Adr ad) (n : Nat)   (a0 : Int32) (st : St) (res : (Int32 × St)) (hf : fX11_isPart n  a0 st = some res) {sz : Nat} : CtI l yX11_isPart (wsU yX11_isPart cX11_isPart 1 (some .boolean)) (rmK 1) D G ad sz [.int a0] st res := by
  refine Met.ofW (cc := cX11_isPart) (maxL := 1) (ret := (some .boolean)) (by decide) rfl ?_
  intro p e s m args below meth c s₁ B hml hv
  obtain ⟨rfl, hsz, hP, hK, hSt⟩ := hv
  have hts := atoms_spec (ws := wsU yX11_isPart cX11_isPart 1 (some .boolean)) B.pre
  have C : Cx p s m _ meth c cX11_isPart 1 wsL_law RX11 (some .boolean) D G ad := ⟨B.exec, B.bytes, hml, findClass_of_methodNamed B.named, fun w h => hts w (List.mem_cons_of_mem _ h), B.returns, B.notSynchronized, hK, had, hSt⟩
  subst hsz
  have hl := lv_entry ([.int a0]) (n := 1) (Nat.le_of_ble_eq_true rfl)
  rw [lg_entry_eq]
  generalize (lg_sl ([.int a0]) ++ List.replicate (1 - (lg_sl ([.int a0])).length) Slot.unset).toArray = ls at hl ⊢
  exact wX11_isPart_s0 C n  a0   st res hf s.heap [] ls (lv_sub hl [0] rfl) hP va_S.rf
section
variable {p : Program} {l : Launch} {e : Env} {s : State} {m : MethodId} {args : Array Value} {below : List Frame} {meth : Method} {c : Code} {D : va_G} {G : G3} {ad : Nat → Nat}
def fX11_straight_s26 (n : Nat)    (st : St) : Option (Int32 × St) := some ((-2), st)
set_option maxHeartbeats 4000000 in
set_option maxRecDepth 100000 in
theorem wX11_straight_s26 (C : Cx p s m args meth c cX11_straight 6 wsL_law RX11 (some .int) D G ad) (n : Nat)      (st : St) (res : (Int32 × St))  (hf : fX11_straight_s26 n    st = some res) : At p l e (rmK 2) s m args below meth c D G ad (MQI D G ad below args s res) 6 st [] 26 [] := by
  obtain ⟨hx, hb, hml, hown, hts, hr, hlk, hK, had, hSt⟩ := id C
  intro H locs ls hl hP hS
  unfold fX11_straight_s26 at hf
  refine lv_bipush (v := (-2)) hx hb dX11_straight_26 (by decide) ?_
  exact g_iret hx hb hr hlk hP hS dX11_straight_28 hf
def fX11_straight_s112 (n : Nat)    (st : St) : Option (Int32 × St) := some (0, st)
set_option maxHeartbeats 4000000 in
set_option maxRecDepth 100000 in
theorem wX11_straight_s112 (C : Cx p s m args meth c cX11_straight 6 wsL_law RX11 (some .int) D G ad) (n : Nat)      (st : St) (res : (Int32 × St))  (hf : fX11_straight_s112 n    st = some res) : At p l e (rmK 2) s m args below meth c D G ad (MQI D G ad below args s res) 6 st [] 112 [] := by
  obtain ⟨hx, hb, hml, hown, hts, hr, hlk, hK, had, hSt⟩ := id C
  intro H locs ls hl hP hS
  unfold fX11_straight_s112 at hf
  refine lv_iconst (v := 0) hx hb dX11_straight_112 (by decide) ?_
  exact g_iret hx hb hr hlk hP hS dX11_straight_113 hf
def fX11_straight_s107 (n : Nat)   (v3 : Int32) (st : St) : Option (Int32 × St) := fX11_straight_s112 n (setI st 130 44 v3)
set_option maxHeartbeats 4000000 in
set_option maxRecDepth 100000 in
theorem wX11_straight_s107 (C : Cx p s m args meth c cX11_straight 6 wsL_law RX11 (some .int) D G ad) (n : Nat)   (v3 : Int32)   (st : St) (res : (Int32 × St))  (hf : fX11_straight_s107 n   v3 st = some res) : At p l e (rmK 2) s m args below meth c D G ad (MQI D G ad below args s res) 6 st [(0, .ref (ad 130)), (3, .int v3)] 107 [] := by
  obtain ⟨hx, hb, hml, hown, hts, hr, hlk, hK, had, hSt⟩ := id C
  intro H locs ls hl hP hS
  unfold fX11_straight_s107 at hf
  refine lv_aload_n hx hb dX11_straight_107 rfl (lv_at hl 0 rfl) ?_
  refine lv_iload_n hx hb dX11_straight_108 rfl (lv_at hl 1 rfl) ?_
  refine g_putI hx hb hts inlX11 tyX11_ok nmX11 hown hK had hP hS 130 ct_130 rfl 44 (by decide) (hts _ wm_8_10) rfl rfl rfl rfl rfl dX11_straight_109 (fun H locs hP hS => ?_)
  exact wX11_straight_s112 C n (setI st 130 44 v3) res hf H locs ls (lv_sub hl [] rfl) hP hS
def fX11_straight_s95 (n : Nat)   (v2 : Int32) (v3 : Int32) (v4 : Int64) (st : St) : Option (Int32 × St) := if v4 = 0 then none else (fX11_straight_s107 n v3 (setJ st 130 43 (((v2 - v2 / 100 * 100).toInt64) / v4)))
set_option maxHeartbeats 4000000 in
set_option maxRecDepth 100000 in
theorem wX11_straight_s95 (C : Cx p s m args meth c cX11_straight 6 wsL_law RX11 (some .int) D G ad) (n : Nat)   (v2 : Int32) (v3 : Int32) (v4 : Int64)   (st : St) (res : (Int32 × St))  (hf : fX11_straight_s95 n   v2 v3 v4 st = some res) : At p l e (rmK 2) s m args below meth c D G ad (MQI D G ad below args s res) 6 st [(0, .ref (ad 130)), (2, .int v2), (3, .int v3), (4, .long v4)] 95 [] := by
  obtain ⟨hx, hb, hml, hown, hts, hr, hlk, hK, had, hSt⟩ := id C
  intro H locs ls hl hP hS
  unfold fX11_straight_s95 at hf
  refine lv_aload_n hx hb dX11_straight_95 rfl (lv_at hl 0 rfl) ?_
  refine lv_iload_n hx hb dX11_straight_96 rfl (lv_at hl 1 rfl) ?_
  refine lv_bipush (v := 100) hx hb dX11_straight_97 (by decide) ?_
  refine lv_irem hx hb dX11_straight_99 (by decide) ?_
  refine lv_i2l hx hb dX11_straight_100 rfl ?_
  refine lv_lload hx hb dX11_straight_101 (lv_at hl 3 rfl) ?_
  obtain ⟨g1, hf⟩ := gn hf
  refine lv_ldiv hx hb dX11_straight_103 g1 ?_
  refine g_putJ hx hb hts inlX11 tyX11_ok nmX11 hown hK had hP hS 130 ct_130 rfl 43 (by decide) (hts _ wm_8_9) rfl rfl rfl dX11_straight_104 (fun H locs hP hS => ?_)
  exact wX11_straight_s107 C n v3 (setJ st 130 43 (((v2 - v2 / 100 * 100).toInt64) / v4)) res hf H locs ls (lv_sub hl [0, 2] rfl) hP hS
def fX11_straight_s81 (n : Nat)   (v2 : Int32) (v3 : Int32) (k0 : Int64) (st : St) : Option (Int32 × St) := if k0 = 0 then none else (fX11_straight_s95 n v2 v3 k0 (setJ st 130 42 (((v2 / 100).toInt64) / k0)))
set_option maxHeartbeats 4000000 in
set_option maxRecDepth 100000 in
theorem wX11_straight_s81 (C : Cx p s m args meth c cX11_straight 6 wsL_law RX11 (some .int) D G ad) (n : Nat)   (v2 : Int32) (v3 : Int32) (k0 : Int64)   (st : St) (res : (Int32 × St))  (hf : fX11_straight_s81 n   v2 v3 k0 st = some res) : At p l e (rmK 2) s m args below meth c D G ad (MQI D G ad below args s res) 6 st [(0, .ref (ad 130)), (2, .int v2), (3, .int v3)] 81 [.long k0] := by
  obtain ⟨hx, hb, hml, hown, hts, hr, hlk, hK, had, hSt⟩ := id C
  intro H locs ls hl hP hS
  unfold fX11_straight_s81 at hf
  refine lv_lstore (lv' := [(4, .long k0), (0, .ref (ad 130)), (2, .int v2), (3, .int v3)]) hx hb dX11_straight_81 hl (by decide) rfl (fun ls hl => ?_)
  refine lv_aload_n hx hb dX11_straight_83 rfl (lv_at hl 1 rfl) ?_
  refine lv_iload_n hx hb dX11_straight_84 rfl (lv_at hl 2 rfl) ?_
  refine lv_bipush (v := 100) hx hb dX11_straight_85 (by decide) ?_
  refine lv_idiv hx hb dX11_straight_87 (by decide) ?_
  refine lv_i2l hx hb dX11_straight_88 rfl ?_
  refine lv_lload hx hb dX11_straight_89 (lv_at hl 0 rfl) ?_
  obtain ⟨g1, hf⟩ := gn hf
  refine lv_ldiv hx hb dX11_straight_91 g1 ?_
  refine g_putJ hx hb hts inlX11 tyX11_ok nmX11 hown hK had hP hS 130 ct_130 rfl 42 (by decide) (hts _ wm_8_8) rfl rfl rfl dX11_straight_92 (fun H locs hP hS => ?_)
  exact wX11_straight_s95 C n v2 v3 k0 (setJ st 130 42 (((v2 / 100).toInt64) / k0)) res hf H locs ls (lv_sub hl [1, 2, 3, 0] rfl) hP hS
def fX11_straight_s68 (n : Nat)   (v2 : Int32) (v3 : Int32) (st : St) : Option (Int32 × St) := (fX11_divisor n ((v2 / 100).toInt64) ((v2 - v2 / 100 * 100).toInt64) st).bind (fun q => fX11_straight_s81 n v2 v3 q.1 q.2)
set_option maxHeartbeats 4000000 in
set_option maxRecDepth 100000 in
theorem wX11_straight_s68 (C : Cx p s m args meth c cX11_straight 6 wsL_law RX11 (some .int) D G ad) (n : Nat)   (v2 : Int32) (v3 : Int32)   (st : St) (res : (Int32 × St))  (hf : fX11_straight_s68 n   v2 v3 st = some res) : At p l e (rmK 2) s m args below meth c D G ad (MQI D G ad below args s res) 6 st [(0, .ref (ad 130)), (2, .int v2), (3, .int v3)] 68 [] := by
  obtain ⟨hx, hb, hml, hown, hts, hr, hlk, hK, had, hSt⟩ := id C
  intro H locs ls hl hP hS
  unfold fX11_straight_s68 at hf
  refine lv_iload_n hx hb dX11_straight_68 rfl (lv_at hl 1 rfl) ?_
  refine lv_bipush (v := 100) hx hb dX11_straight_69 (by decide) ?_
  refine lv_idiv hx hb dX11_straight_71 (by decide) ?_
  refine lv_i2l hx hb dX11_straight_72 rfl ?_
  refine lv_iload_n hx hb dX11_straight_73 rfl (lv_at hl 1 rfl) ?_
  refine lv_bipush (v := 100) hx hb dX11_straight_74 (by decide) ?_
  refine lv_irem hx hb dX11_straight_76 (by decide) ?_
  refine lv_i2l hx hb dX11_straight_77 rfl ?_
  obtain ⟨q, hq, hf⟩ := bd hf
  refine gcS_j (k := 0) (As := [.long ((v2 / 100).toInt64), .long ((v2 - v2 / 100 * 100).toInt64)]) (rest := []) hx hb hml hown hts hK hSt hP hS hl.1 (goodS wm_34_9 wm_34_10 wm_1_5 wm_34_11) okX11_divisor (Nat.le_of_ble_eq_true rfl) (Nat.le_of_ble_eq_true rfl) rfl rfl (Nat.le_of_ble_eq_true rfl) dX11_straight_78 (kX11_divisor l D G ad had n  ((v2 / 100).toInt64) ((v2 - v2 / 100 * 100).toInt64) st q hq) (fun H locs hP hS => ?_)
  exact wX11_straight_s81 C n v2 v3 q.1 q.2 res hf H locs ls (lv_sub hl [0, 1, 2] rfl) hP hS
def fX11_straight_s56 (n : Nat)   (v1 : Int32) (v2 : Int32) (v3 : Int32) (v4 : Int64) (st : St) : Option (Int32 × St) := if v4 = 0 then none else (fX11_straight_s68 n v2 v3 (setJ st 130 41 (((v1 - v1 / 100 * 100).toInt64) / v4)))
set_option maxHeartbeats 4000000 in
set_option maxRecDepth 100000 in
theorem wX11_straight_s56 (C : Cx p s m args meth c cX11_straight 6 wsL_law RX11 (some .int) D G ad) (n : Nat)   (v1 : Int32) (v2 : Int32) (v3 : Int32) (v4 : Int64)   (st : St) (res : (Int32 × St))  (hf : fX11_straight_s56 n   v1 v2 v3 v4 st = some res) : At p l e (rmK 2) s m args below meth c D G ad (MQI D G ad below args s res) 6 st [(0, .ref (ad 130)), (1, .int v1), (2, .int v2), (3, .int v3), (4, .long v4)] 56 [] := by
  obtain ⟨hx, hb, hml, hown, hts, hr, hlk, hK, had, hSt⟩ := id C
  intro H locs ls hl hP hS
  unfold fX11_straight_s56 at hf
  refine lv_aload_n hx hb dX11_straight_56 rfl (lv_at hl 0 rfl) ?_
  refine lv_iload_n hx hb dX11_straight_57 rfl (lv_at hl 1 rfl) ?_
  refine lv_bipush (v := 100) hx hb dX11_straight_58 (by decide) ?_
  refine lv_irem hx hb dX11_straight_60 (by decide) ?_
  refine lv_i2l hx hb dX11_straight_61 rfl ?_
  refine lv_lload hx hb dX11_straight_62 (lv_at hl 4 rfl) ?_
  obtain ⟨g1, hf⟩ := gn hf
  refine lv_ldiv hx hb dX11_straight_64 g1 ?_
  refine g_putJ hx hb hts inlX11 tyX11_ok nmX11 hown hK had hP hS 130 ct_130 rfl 41 (by decide) (hts _ wm_8_7) rfl rfl rfl dX11_straight_65 (fun H locs hP hS => ?_)
  exact wX11_straight_s68 C n v2 v3 (setJ st 130 41 (((v1 - v1 / 100 * 100).toInt64) / v4)) res hf H locs ls (lv_sub hl [0, 2, 3] rfl) hP hS
def fX11_straight_s42 (n : Nat)   (v1 : Int32) (v2 : Int32) (v3 : Int32) (k0 : Int64) (st : St) : Option (Int32 × St) := if k0 = 0 then none else (fX11_straight_s56 n v1 v2 v3 k0 (setJ st 130 40 (((v1 / 100).toInt64) / k0)))
set_option maxHeartbeats 4000000 in
set_option maxRecDepth 100000 in
theorem wX11_straight_s42 (C : Cx p s m args meth c cX11_straight 6 wsL_law RX11 (some .int) D G ad) (n : Nat)   (v1 : Int32) (v2 : Int32) (v3 : Int32) (k0 : Int64)   (st : St) (res : (Int32 × St))  (hf : fX11_straight_s42 n   v1 v2 v3 k0 st = some res) : At p l e (rmK 2) s m args below meth c D G ad (MQI D G ad below args s res) 6 st [(0, .ref (ad 130)), (1, .int v1), (2, .int v2), (3, .int v3)] 42 [.long k0] := by
  obtain ⟨hx, hb, hml, hown, hts, hr, hlk, hK, had, hSt⟩ := id C
  intro H locs ls hl hP hS
  unfold fX11_straight_s42 at hf
  refine lv_lstore (lv' := [(4, .long k0), (0, .ref (ad 130)), (1, .int v1), (2, .int v2), (3, .int v3)]) hx hb dX11_straight_42 hl (by decide) rfl (fun ls hl => ?_)
  refine lv_aload_n hx hb dX11_straight_44 rfl (lv_at hl 1 rfl) ?_
  refine lv_iload_n hx hb dX11_straight_45 rfl (lv_at hl 2 rfl) ?_
  refine lv_bipush (v := 100) hx hb dX11_straight_46 (by decide) ?_
  refine lv_idiv hx hb dX11_straight_48 (by decide) ?_
  refine lv_i2l hx hb dX11_straight_49 rfl ?_
  refine lv_lload hx hb dX11_straight_50 (lv_at hl 0 rfl) ?_
  obtain ⟨g1, hf⟩ := gn hf
  refine lv_ldiv hx hb dX11_straight_52 g1 ?_
  refine g_putJ hx hb hts inlX11 tyX11_ok nmX11 hown hK had hP hS 130 ct_130 rfl 40 (by decide) (hts _ wm_8_6) rfl rfl rfl dX11_straight_53 (fun H locs hP hS => ?_)
  exact wX11_straight_s56 C n v1 v2 v3 k0 (setJ st 130 40 (((v1 / 100).toInt64) / k0)) res hf H locs ls (lv_sub hl [1, 2, 3, 4, 0] rfl) hP hS
def fX11_straight_s29 (n : Nat)   (v1 : Int32) (v2 : Int32) (v3 : Int32) (st : St) : Option (Int32 × St) := (fX11_divisor n ((v1 / 100).toInt64) ((v1 - v1 / 100 * 100).toInt64) st).bind (fun q => fX11_straight_s42 n v1 v2 v3 q.1 q.2)
set_option maxHeartbeats 4000000 in
set_option maxRecDepth 100000 in
theorem wX11_straight_s29 (C : Cx p s m args meth c cX11_straight 6 wsL_law RX11 (some .int) D G ad) (n : Nat)   (v1 : Int32) (v2 : Int32) (v3 : Int32)   (st : St) (res : (Int32 × St))  (hf : fX11_straight_s29 n   v1 v2 v3 st = some res) : At p l e (rmK 2) s m args below meth c D G ad (MQI D G ad below args s res) 6 st [(0, .ref (ad 130)), (1, .int v1), (2, .int v2), (3, .int v3)] 29 [] := by
  obtain ⟨hx, hb, hml, hown, hts, hr, hlk, hK, had, hSt⟩ := id C
  intro H locs ls hl hP hS
  unfold fX11_straight_s29 at hf
  refine lv_iload_n hx hb dX11_straight_29 rfl (lv_at hl 1 rfl) ?_
  refine lv_bipush (v := 100) hx hb dX11_straight_30 (by decide) ?_
  refine lv_idiv hx hb dX11_straight_32 (by decide) ?_
  refine lv_i2l hx hb dX11_straight_33 rfl ?_
  refine lv_iload_n hx hb dX11_straight_34 rfl (lv_at hl 1 rfl) ?_
  refine lv_bipush (v := 100) hx hb dX11_straight_35 (by decide) ?_
  refine lv_irem hx hb dX11_straight_37 (by decide) ?_
  refine lv_i2l hx hb dX11_straight_38 rfl ?_
  obtain ⟨q, hq, hf⟩ := bd hf
  refine gcS_j (k := 0) (As := [.long ((v1 / 100).toInt64), .long ((v1 - v1 / 100 * 100).toInt64)]) (rest := []) hx hb hml hown hts hK hSt hP hS hl.1 (goodS wm_34_9 wm_34_10 wm_1_5 wm_34_11) okX11_divisor (Nat.le_of_ble_eq_true rfl) (Nat.le_of_ble_eq_true rfl) rfl rfl (Nat.le_of_ble_eq_true rfl) dX11_straight_39 (kX11_divisor l D G ad had n  ((v1 / 100).toInt64) ((v1 - v1 / 100 * 100).toInt64) st q hq) (fun H locs hP hS => ?_)
  exact wX11_straight_s42 C n v1 v2 v3 q.1 q.2 res hf H locs ls (lv_sub hl [0, 1, 2, 3] rfl) hP hS
def fX11_straight_s23 (n : Nat)   (v1 : Int32) (v2 : Int32) (v3 : Int32) (k0 : Int32) (st : St) : Option (Int32 × St) := if k0 = 0 then fX11_straight_s26 n st else fX11_straight_s29 n v1 v2 v3 st
set_option maxHeartbeats 4000000 in
set_option maxRecDepth 100000 in
theorem wX11_straight_s23 (C : Cx p s m args meth c cX11_straight 6 wsL_law RX11 (some .int) D G ad) (n : Nat)   (v1 : Int32) (v2 : Int32) (v3 : Int32) (k0 : Int32)   (st : St) (res : (Int32 × St))  (hf : fX11_straight_s23 n   v1 v2 v3 k0 st = some res) : At p l e (rmK 2) s m args below meth c D G ad (MQI D G ad below args s res) 6 st [(0, .ref (ad 130)), (1, .int v1), (2, .int v2), (3, .int v3)] 23 [.int k0] := by
  obtain ⟨hx, hb, hml, hown, hts, hr, hlk, hK, had, hSt⟩ := id C
  intro H locs ls hl hP hS
  unfold fX11_straight_s23 at hf
  refine lv_if_ne (tgt := 29) hx hb dX11_straight_23 (by decide) (fun q => ?_) (fun q => ?_)
  · exact wX11_straight_s29 C n v1 v2 v3 st res (ie hf q) H locs ls (lv_sub hl [0, 1, 2, 3] rfl) hP hS
  · exact wX11_straight_s26 C n st res (it hf q) H locs ls (lv_sub hl [] rfl) hP hS
def fX11_straight_s14 (n : Nat)   (v1 : Int32) (v2 : Int32) (v3 : Int32) (st : St) : Option (Int32 × St) := (fX11_in n v3.toInt64 1 8 st).bind (fun q => fX11_straight_s23 n v1 v2 v3 q.1 q.2)
set_option maxHeartbeats 4000000 in
set_option maxRecDepth 100000 in
theorem wX11_straight_s14 (C : Cx p s m args meth c cX11_straight 6 wsL_law RX11 (some .int) D G ad) (n : Nat)   (v1 : Int32) (v2 : Int32) (v3 : Int32)   (st : St) (res : (Int32 × St))  (hf : fX11_straight_s14 n   v1 v2 v3 st = some res) : At p l e (rmK 2) s m args below meth c D G ad (MQI D G ad below args s res) 6 st [(0, .ref (ad 130)), (1, .int v1), (2, .int v2), (3, .int v3)] 14 [] := by
  obtain ⟨hx, hb, hml, hown, hts, hr, hlk, hK, had, hSt⟩ := id C
  intro H locs ls hl hP hS
  unfold fX11_straight_s14 at hf
  refine lv_iload_n hx hb dX11_straight_14 rfl (lv_at hl 3 rfl) ?_
  refine lv_i2l hx hb dX11_straight_15 rfl ?_
  refine lv_lconst (v := 1) hx hb dX11_straight_16 (by decide) ?_
  refine lv_ldc2 hx hb hown (hts _ wm_25_10) dX11_straight_17 ?_
  obtain ⟨q, hq, hf⟩ := bd hf
  refine gcS_i (k := 0) (As := [.long v3.toInt64, .long 1, .long 8]) (rest := []) hx hb hml hown hts hK hSt hP hS hl.1 (goodS wm_10_21 wm_10_22 wm_1_5 wm_10_23) okX11_in (Nat.le_of_ble_eq_true rfl) (Nat.le_of_ble_eq_true rfl) rfl rfl (Nat.le_of_ble_eq_true rfl) dX11_straight_20 (kX11_in l D G ad had n  v3.toInt64 1 8 st q hq) (fun H locs hP hS => ?_)
  exact wX11_straight_s23 C n v1 v2 v3 q.1 q.2 res hf H locs ls (lv_sub hl [0, 1, 2, 3] rfl) hP hS
def fX11_straight_s11 (n : Nat)   (v1 : Int32) (v2 : Int32) (v3 : Int32) (k0 : Int32) (st : St) : Option (Int32 × St) := if k0 = 0 then fX11_straight_s26 n st else fX11_straight_s14 n v1 v2 v3 st
set_option maxHeartbeats 4000000 in
set_option maxRecDepth 100000 in
theorem wX11_straight_s11 (C : Cx p s m args meth c cX11_straight 6 wsL_law RX11 (some .int) D G ad) (n : Nat)   (v1 : Int32) (v2 : Int32) (v3 : Int32) (k0 : Int32)   (st : St) (res : (Int32 × St))  (hf : fX11_straight_s11 n   v1 v2 v3 k0 st = some res) : At p l e (rmK 2) s m args below meth c D G ad (MQI D G ad below args s res) 6 st [(0, .ref (ad 130)), (1, .int v1), (2, .int v2), (3, .int v3)] 11 [.int k0] := by
  obtain ⟨hx, hb, hml, hown, hts, hr, hlk, hK, had, hSt⟩ := id C
  intro H locs ls hl hP hS
  unfold fX11_straight_s11 at hf
  refine lv_if_eq (tgt := 26) hx hb dX11_straight_11 (by decide) (fun q => ?_) (fun q => ?_)
  · exact wX11_straight_s26 C n st res (it hf q) H locs ls (lv_sub hl [] rfl) hP hS
  · exact wX11_straight_s14 C n v1 v2 v3 st res (ie hf q) H locs ls (lv_sub hl [0, 1, 2, 3] rfl) hP hS
def fX11_straight_s7 (n : Nat)   (v1 : Int32) (v2 : Int32) (v3 : Int32) (st : St) : Option (Int32 × St) := (fX11_isPart n v2 st).bind (fun q => fX11_straight_s11 n v1 v2 v3 q.1 q.2)
set_option maxHeartbeats 4000000 in
set_option maxRecDepth 100000 in
theorem wX11_straight_s7 (C : Cx p s m args meth c cX11_straight 6 wsL_law RX11 (some .int) D G ad) (n : Nat)   (v1 : Int32) (v2 : Int32) (v3 : Int32)   (st : St) (res : (Int32 × St))  (hf : fX11_straight_s7 n   v1 v2 v3 st = some res) : At p l e (rmK 2) s m args below meth c D G ad (MQI D G ad below args s res) 6 st [(0, .ref (ad 130)), (1, .int v1), (2, .int v2), (3, .int v3)] 7 [] := by
  obtain ⟨hx, hb, hml, hown, hts, hr, hlk, hK, had, hSt⟩ := id C
  intro H locs ls hl hP hS
  unfold fX11_straight_s7 at hf
  refine lv_iload_n hx hb dX11_straight_7 rfl (lv_at hl 2 rfl) ?_
  obtain ⟨q, hq, hf⟩ := bd hf
  refine gcS_i (k := 1) (As := [.int v2]) (rest := []) hx hb hml hown hts hK hSt hP hS hl.1 (goodS wm_35_2 wm_35_3 wm_1_5 wm_35_4) okX11_isPart (Nat.le_of_ble_eq_true rfl) (Nat.le_of_ble_eq_true rfl) rfl rfl (Nat.le_of_ble_eq_true rfl) dX11_straight_8 (kX11_isPart l D G ad had n  v2 st q hq) (fun H locs hP hS => ?_)
  exact wX11_straight_s11 C n v1 v2 v3 q.1 q.2 res hf H locs ls (lv_sub hl [0, 1, 2, 3] rfl) hP hS
def fX11_straight_s4 (n : Nat)   (v1 : Int32) (v2 : Int32) (v3 : Int32) (k0 : Int32) (st : St) : Option (Int32 × St) := if k0 = 0 then fX11_straight_s26 n st else fX11_straight_s7 n v1 v2 v3 st
set_option maxHeartbeats 4000000 in
set_option maxRecDepth 100000 in
theorem wX11_straight_s4 (C : Cx p s m args meth c cX11_straight 6 wsL_law RX11 (some .int) D G ad) (n : Nat)   (v1 : Int32) (v2 : Int32) (v3 : Int32) (k0 : Int32)   (st : St) (res : (Int32 × St))  (hf : fX11_straight_s4 n   v1 v2 v3 k0 st = some res) : At p l e (rmK 2) s m args below meth c D G ad (MQI D G ad below args s res) 6 st [(0, .ref (ad 130)), (1, .int v1), (2, .int v2), (3, .int v3)] 4 [.int k0] := by
  obtain ⟨hx, hb, hml, hown, hts, hr, hlk, hK, had, hSt⟩ := id C
  intro H locs ls hl hP hS
  unfold fX11_straight_s4 at hf
  refine lv_if_eq (tgt := 26) hx hb dX11_straight_4 (by decide) (fun q => ?_) (fun q => ?_)
  · exact wX11_straight_s26 C n st res (it hf q) H locs ls (lv_sub hl [] rfl) hP hS
  · exact wX11_straight_s7 C n v1 v2 v3 st res (ie hf q) H locs ls (lv_sub hl [0, 1, 2, 3] rfl) hP hS
def fX11_straight_s0 (n : Nat)   (v1 : Int32) (v2 : Int32) (v3 : Int32) (st : St) : Option (Int32 × St) := (fX11_isPart n v1 st).bind (fun q => fX11_straight_s4 n v1 v2 v3 q.1 q.2)
set_option maxHeartbeats 4000000 in
set_option maxRecDepth 100000 in
theorem wX11_straight_s0 (C : Cx p s m args meth c cX11_straight 6 wsL_law RX11 (some .int) D G ad) (n : Nat)   (v1 : Int32) (v2 : Int32) (v3 : Int32)   (st : St) (res : (Int32 × St))  (hf : fX11_straight_s0 n   v1 v2 v3 st = some res) : At p l e (rmK 2) s m args below meth c D G ad (MQI D G ad below args s res) 6 st [(0, .ref (ad 130)), (1, .int v1), (2, .int v2), (3, .int v3)] 0 [] := by
  obtain ⟨hx, hb, hml, hown, hts, hr, hlk, hK, had, hSt⟩ := id C
  intro H locs ls hl hP hS
  unfold fX11_straight_s0 at hf
  refine lv_iload_n hx hb dX11_straight_0 rfl (lv_at hl 1 rfl) ?_
  obtain ⟨q, hq, hf⟩ := bd hf
  refine gcS_i (k := 1) (As := [.int v1]) (rest := []) hx hb hml hown hts hK hSt hP hS hl.1 (goodS wm_35_2 wm_35_3 wm_1_5 wm_35_4) okX11_isPart (Nat.le_of_ble_eq_true rfl) (Nat.le_of_ble_eq_true rfl) rfl rfl (Nat.le_of_ble_eq_true rfl) dX11_straight_1 (kX11_isPart l D G ad had n  v1 st q hq) (fun H locs hP hS => ?_)
  exact wX11_straight_s4 C n v1 v2 v3 q.1 q.2 res hf H locs ls (lv_sub hl [0, 1, 2, 3] rfl) hP hS
def fX11_straight (n : Nat)  (a1 : Int32) (a2 : Int32) (a3 : Int32) (st : St) : Option (Int32 × St) := fX11_straight_s0 n a1 a2 a3 st
theorem okX11_straight : okY yX11_straight RX11 3 := by unfold okY; decide +kernel
end
set_option maxRecDepth 100000 in
theorem kX11_straight (l : Launch) (D : va_G) (G : G3) (ad : Nat → Nat) (had : Adr ad) (n : Nat)   (a1 : Int32) (a2 : Int32) (a3 : Int32) (st : St) (res : (Int32 × St)) (hf : fX11_straight n  a1 a2 a3 st = some res) {sz : Nat} : CtI l yX11_straight (wsU yX11_straight cX11_straight 6 (some .int)) (rmK 2) D G ad sz [.ref (ad 130), .int a1, .int a2, .int a3] st res := by
  refine Met.ofW (cc := cX11_straight) (maxL := 6) (ret := (some .int)) (by decide) rfl ?_
  intro p e s m args below meth c s₁ B hml hv
  obtain ⟨rfl, hsz, hP, hK, hSt⟩ := hv
  have hts := atoms_spec (ws := wsU yX11_straight cX11_straight 6 (some .int)) B.pre
  have C : Cx p s m _ meth c cX11_straight 6 wsL_law RX11 (some .int) D G ad := ⟨B.exec, B.bytes, hml, findClass_of_methodNamed B.named, fun w h => hts w (List.mem_cons_of_mem _ h), B.returns, B.notSynchronized, hK, had, hSt⟩
  subst hsz
  have hl := lv_entry ([.ref (ad 130), .int a1, .int a2, .int a3]) (n := 6) (Nat.le_of_ble_eq_true rfl)
  rw [lg_entry_eq]
  generalize (lg_sl ([.ref (ad 130), .int a1, .int a2, .int a3]) ++ List.replicate (6 - (lg_sl ([.ref (ad 130), .int a1, .int a2, .int a3])).length) Slot.unset).toArray = ls at hl ⊢
  exact wX11_straight_s0 C n  a1 a2 a3   st res hf s.heap [] ls (lv_sub hl [0, 1, 2, 3] rfl) hP va_S.rf
section
variable {p : Program} {l : Launch} {e : Env} {s : State} {m : MethodId} {args : Array Value} {below : List Frame} {meth : Method} {c : Code} {D : va_G} {G : G3} {ad : Nat → Nat}
def fX11_lowest_s89 (n : Nat)    (st : St) : Option (Unit × St) := some ((), st)
set_option maxHeartbeats 4000000 in
set_option maxRecDepth 100000 in
theorem wX11_lowest_s89 (C : Cx p s m args meth c cX11_lowest 7 wsL_law RX11 none D G ad) (n : Nat)      (st : St) (res : (Unit × St))  (hf : fX11_lowest_s89 n    st = some res) : At p l e (rmK 1) s m args below meth c D G ad (MQV D G ad below args s res) 7 st [] 89 [] := by
  obtain ⟨hx, hb, hml, hown, hts, hr, hlk, hK, had, hSt⟩ := id C
  intro H locs ls hl hP hS
  unfold fX11_lowest_s89 at hf
  exact g_vret hx hb hr hlk hP hS dX11_lowest_89 hf
def fX11_lowest_s84 (n : Nat)    (st : St) : Option (Unit × St) := fX11_lowest_s89 n (setJ st 130 46 1)
set_option maxHeartbeats 4000000 in
set_option maxRecDepth 100000 in
theorem wX11_lowest_s84 (C : Cx p s m args meth c cX11_lowest 7 wsL_law RX11 none D G ad) (n : Nat)      (st : St) (res : (Unit × St))  (hf : fX11_lowest_s84 n    st = some res) : At p l e (rmK 1) s m args below meth c D G ad (MQV D G ad below args s res) 7 st [(0, .ref (ad 130))] 84 [] := by
  obtain ⟨hx, hb, hml, hown, hts, hr, hlk, hK, had, hSt⟩ := id C
  intro H locs ls hl hP hS
  unfold fX11_lowest_s84 at hf
  refine lv_aload_n hx hb dX11_lowest_84 rfl (lv_at hl 0 rfl) ?_
  refine lv_lconst (v := 1) hx hb dX11_lowest_85 (by decide) ?_
  refine g_putJ hx hb hts inlX11 tyX11_ok nmX11 hown hK had hP hS 130 ct_130 rfl 46 (by decide) (hts _ wm_37_0) rfl rfl rfl dX11_lowest_86 (fun H locs hP hS => ?_)
  exact wX11_lowest_s89 C n (setJ st 130 46 1) res hf H locs ls (lv_sub hl [] rfl) hP hS
def fX11_lowest_s79 (n : Nat)    (st : St) : Option (Unit × St) := fX11_lowest_s84 n (setJ st 130 45 0)
set_option maxHeartbeats 4000000 in
set_option maxRecDepth 100000 in
theorem wX11_lowest_s79 (C : Cx p s m args meth c cX11_lowest 7 wsL_law RX11 none D G ad) (n : Nat)      (st : St) (res : (Unit × St))  (hf : fX11_lowest_s79 n    st = some res) : At p l e (rmK 1) s m args below meth c D G ad (MQV D G ad below args s res) 7 st [(0, .ref (ad 130))] 79 [] := by
  obtain ⟨hx, hb, hml, hown, hts, hr, hlk, hK, had, hSt⟩ := id C
  intro H locs ls hl hP hS
  unfold fX11_lowest_s79 at hf
  refine lv_aload_n hx hb dX11_lowest_79 rfl (lv_at hl 0 rfl) ?_
  refine lv_lconst (v := 0) hx hb dX11_lowest_80 (by decide) ?_
  refine g_putJ hx hb hts inlX11 tyX11_ok nmX11 hown hK had hP hS 130 ct_130 rfl 45 (by decide) (hts _ wm_36_23) rfl rfl rfl dX11_lowest_81 (fun H locs hP hS => ?_)
  exact wX11_lowest_s84 C n (setJ st 130 45 0) res hf H locs ls (lv_sub hl [0] rfl) hP hS
def fX11_lowest_s72 (n : Nat)    (st : St) : Option (Unit × St) := if (st.1 130 47) = 0 then fX11_lowest_s89 n st else fX11_lowest_s79 n st
set_option maxHeartbeats 4000000 in
set_option maxRecDepth 100000 in
theorem wX11_lowest_s72 (C : Cx p s m args meth c cX11_lowest 7 wsL_law RX11 none D G ad) (n : Nat)      (st : St) (res : (Unit × St))  (hf : fX11_lowest_s72 n    st = some res) : At p l e (rmK 1) s m args below meth c D G ad (MQV D G ad below args s res) 7 st [(0, .ref (ad 130))] 72 [] := by
  obtain ⟨hx, hb, hml, hown, hts, hr, hlk, hK, had, hSt⟩ := id C
  intro H locs ls hl hP hS
  unfold fX11_lowest_s72 at hf
  refine lv_aload_n hx hb dX11_lowest_72 rfl (lv_at hl 0 rfl) ?_
  refine g_getI hx hb hts inlX11 hown hK hP 130 ct_130 rfl 47 (by decide) (hts _ wm_36_14) rfl dX11_lowest_73 ?_
  refine lv_if_eq (tgt := 89) hx hb dX11_lowest_76 (by decide) (fun q => ?_) (fun q => ?_)
  · exact wX11_lowest_s89 C n st res (it hf q) H locs ls (lv_sub hl [] rfl) hP hS
  · exact wX11_lowest_s79 C n st res (ie hf q) H locs ls (lv_sub hl [0] rfl) hP hS
def fX11_lowest_s69 (n : Nat)   (k1 : Int32) (st : St) : Option (Unit × St) := if zb k1 = true then (fX11_lowest_s72 n (setI st 130 47 k1)) else none
set_option maxHeartbeats 4000000 in
set_option maxRecDepth 100000 in
theorem wX11_lowest_s69 (C : Cx p s m args meth c cX11_lowest 7 wsL_law RX11 none D G ad) (n : Nat)   (k1 : Int32)   (st : St) (res : (Unit × St))  (hf : fX11_lowest_s69 n   k1 st = some res) : At p l e (rmK 1) s m args below meth c D G ad (MQV D G ad below args s res) 7 st [(0, .ref (ad 130))] 69 [.int k1, .ref (ad 130)] := by
  obtain ⟨hx, hb, hml, hown, hts, hr, hlk, hK, had, hSt⟩ := id C
  intro H locs ls hl hP hS
  unfold fX11_lowest_s69 at hf
  obtain ⟨gz, hf⟩ := gd hf
  refine g_putI hx hb hts inlX11 tyX11_ok nmX11 hown hK had hP hS 130 ct_130 rfl 47 (by decide) (hts _ wm_36_14) rfl rfl rfl (zb_n gz) (zb_f gz) dX11_lowest_69 (fun H locs hP hS => ?_)
  exact wX11_lowest_s72 C n (setI st 130 47 k1) res hf H locs ls (lv_sub hl [0] rfl) hP hS
def fX11_lowest_s64 (n : Nat)    (st : St) : Option (Unit × St) := fX11_lowest_s69 n 1 st
set_option maxHeartbeats 4000000 in
set_option maxRecDepth 100000 in
theorem wX11_lowest_s64 (C : Cx p s m args meth c cX11_lowest 7 wsL_law RX11 none D G ad) (n : Nat)      (st : St) (res : (Unit × St))  (hf : fX11_lowest_s64 n    st = some res) : At p l e (rmK 1) s m args below meth c D G ad (MQV D G ad below args s res) 7 st [(0, .ref (ad 130))] 64 [.ref (ad 130)] := by
  obtain ⟨hx, hb, hml, hown, hts, hr, hlk, hK, had, hSt⟩ := id C
  intro H locs ls hl hP hS
  unfold fX11_lowest_s64 at hf
  refine lv_iconst (v := 1) hx hb dX11_lowest_64 (by decide) ?_
  refine lv_goto (tgt := 69) hx hb dX11_lowest_65 (by decide) ?_
  exact wX11_lowest_s69 C n 1 st res hf H locs ls (lv_sub hl [0] rfl) hP hS
def fX11_lowest_s68 (n : Nat)    (st : St) : Option (Unit × St) := fX11_lowest_s69 n 0 st
set_option maxHeartbeats 4000000 in
set_option maxRecDepth 100000 in
theorem wX11_lowest_s68 (C : Cx p s m args meth c cX11_lowest 7 wsL_law RX11 none D G ad) (n : Nat)      (st : St) (res : (Unit × St))  (hf : fX11_lowest_s68 n    st = some res) : At p l e (rmK 1) s m args below meth c D G ad (MQV D G ad below args s res) 7 st [(0, .ref (ad 130))] 68 [.ref (ad 130)] := by
  obtain ⟨hx, hb, hml, hown, hts, hr, hlk, hK, had, hSt⟩ := id C
  intro H locs ls hl hP hS
  unfold fX11_lowest_s68 at hf
  refine lv_iconst (v := 0) hx hb dX11_lowest_68 (by decide) ?_
  exact wX11_lowest_s69 C n 0 st res hf H locs ls (lv_sub hl [0] rfl) hP hS
def fX11_lowest_s53 (n : Nat)    (st : St) : Option (Unit × St) := if (st.2 130 46) ≤ 1000000000 then fX11_lowest_s68 n st else fX11_lowest_s64 n st
set_option maxHeartbeats 4000000 in
set_option maxRecDepth 100000 in
theorem wX11_lowest_s53 (C : Cx p s m args meth c cX11_lowest 7 wsL_law RX11 none D G ad) (n : Nat)      (st : St) (res : (Unit × St))  (hf : fX11_lowest_s53 n    st = some res) : At p l e (rmK 1) s m args below meth c D G ad (MQV D G ad below args s res) 7 st [(0, .ref (ad 130))] 53 [.ref (ad 130)] := by
  obtain ⟨hx, hb, hml, hown, hts, hr, hlk, hK, had, hSt⟩ := id C
  intro H locs ls hl hP hS
  unfold fX11_lowest_s53 at hf
  refine lv_aload_n hx hb dX11_lowest_53 rfl (lv_at hl 0 rfl) ?_
  refine g_getJ hx hb hts inlX11 hown hK hP 130 ct_130 rfl 46 (by decide) (hts _ wm_37_0) rfl dX11_lowest_54 ?_
  refine lv_ldc2 hx hb hown (hts _ wm_24_2) dX11_lowest_57 ?_
  refine g_lcmp_le (tgt := 68) hx hb dX11_lowest_60 dX11_lowest_61 (by decide) (fun q => ?_) (fun q => ?_)
  · exact wX11_lowest_s68 C n st res (it hf q) H locs ls (lv_sub hl [0] rfl) hP hS
  · exact wX11_lowest_s64 C n st res (ie hf q) H locs ls (lv_sub hl [0] rfl) hP hS
def fX11_lowest_s42 (n : Nat)    (st : St) : Option (Unit × St) := if (st.2 130 45) < (-1000000000) then fX11_lowest_s64 n st else fX11_lowest_s53 n st
set_option maxHeartbeats 4000000 in
set_option maxRecDepth 100000 in
theorem wX11_lowest_s42 (C : Cx p s m args meth c cX11_lowest 7 wsL_law RX11 none D G ad) (n : Nat)      (st : St) (res : (Unit × St))  (hf : fX11_lowest_s42 n    st = some res) : At p l e (rmK 1) s m args below meth c D G ad (MQV D G ad below args s res) 7 st [(0, .ref (ad 130))] 42 [.ref (ad 130)] := by
  obtain ⟨hx, hb, hml, hown, hts, hr, hlk, hK, had, hSt⟩ := id C
  intro H locs ls hl hP hS
  unfold fX11_lowest_s42 at hf
  refine lv_aload_n hx hb dX11_lowest_42 rfl (lv_at hl 0 rfl) ?_
  refine g_getJ hx hb hts inlX11 hown hK hP 130 ct_130 rfl 45 (by decide) (hts _ wm_36_23) rfl dX11_lowest_43 ?_
  refine lv_ldc2 hx hb hown (hts _ wm_24_3) dX11_lowest_46 ?_
  refine g_lcmp_lt (tgt := 64) hx hb dX11_lowest_49 dX11_lowest_50 (by decide) (fun q => ?_) (fun q => ?_)
  · exact wX11_lowest_s64 C n st res (it hf q) H locs ls (lv_sub hl [0] rfl) hP hS
  · exact wX11_lowest_s53 C n st res (ie hf q) H locs ls (lv_sub hl [0] rfl) hP hS
def fX11_lowest_s31 (n : Nat)    (st : St) : Option (Unit × St) := if 1000000000 < (st.2 130 45) then fX11_lowest_s64 n st else fX11_lowest_s42 n st
set_option maxHeartbeats 4000000 in
set_option maxRecDepth 100000 in
theorem wX11_lowest_s31 (C : Cx p s m args meth c cX11_lowest 7 wsL_law RX11 none D G ad) (n : Nat)      (st : St) (res : (Unit × St))  (hf : fX11_lowest_s31 n    st = some res) : At p l e (rmK 1) s m args below meth c D G ad (MQV D G ad below args s res) 7 st [(0, .ref (ad 130))] 31 [.ref (ad 130)] := by
  obtain ⟨hx, hb, hml, hown, hts, hr, hlk, hK, had, hSt⟩ := id C
  intro H locs ls hl hP hS
  unfold fX11_lowest_s31 at hf
  refine lv_aload_n hx hb dX11_lowest_31 rfl (lv_at hl 0 rfl) ?_
  refine g_getJ hx hb hts inlX11 hown hK hP 130 ct_130 rfl 45 (by decide) (hts _ wm_36_23) rfl dX11_lowest_32 ?_
  refine lv_ldc2 hx hb hown (hts _ wm_24_2) dX11_lowest_35 ?_
  refine g_lcmp_gt (tgt := 64) hx hb dX11_lowest_38 dX11_lowest_39 (by decide) (fun q => ?_) (fun q => ?_)
  · exact wX11_lowest_s64 C n st res (it hf q) H locs ls (lv_sub hl [0] rfl) hP hS
  · exact wX11_lowest_s42 C n st res (ie hf q) H locs ls (lv_sub hl [0] rfl) hP hS
def fX11_lowest_s23 (n : Nat)    (st : St) : Option (Unit × St) := if (st.1 130 47) = 0 then fX11_lowest_s31 n st else fX11_lowest_s64 n st
set_option maxHeartbeats 4000000 in
set_option maxRecDepth 100000 in
theorem wX11_lowest_s23 (C : Cx p s m args meth c cX11_lowest 7 wsL_law RX11 none D G ad) (n : Nat)      (st : St) (res : (Unit × St))  (hf : fX11_lowest_s23 n    st = some res) : At p l e (rmK 1) s m args below meth c D G ad (MQV D G ad below args s res) 7 st [(0, .ref (ad 130))] 23 [] := by
  obtain ⟨hx, hb, hml, hown, hts, hr, hlk, hK, had, hSt⟩ := id C
  intro H locs ls hl hP hS
  unfold fX11_lowest_s23 at hf
  refine lv_aload_n hx hb dX11_lowest_23 rfl (lv_at hl 0 rfl) ?_
  refine lv_aload_n hx hb dX11_lowest_24 rfl (lv_at hl 0 rfl) ?_
  refine g_getI hx hb hts inlX11 hown hK hP 130 ct_130 rfl 47 (by decide) (hts _ wm_36_14) rfl dX11_lowest_25 ?_
  refine lv_if_ne (tgt := 64) hx hb dX11_lowest_28 (by decide) (fun q => ?_) (fun q => ?_)
  · exact wX11_lowest_s64 C n st res (ie hf q) H locs ls (lv_sub hl [0] rfl) hP hS
  · exact wX11_lowest_s31 C n st res (it hf q) H locs ls (lv_sub hl [0] rfl) hP hS
def fX11_lowest_s15 (n : Nat)   (v3 : Int64) (v5 : Int64) (st : St) : Option (Unit × St) := if v5 = 0 then none else (fX11_lowest_s23 n (setJ st 130 46 (v3 / v5)))
set_option maxHeartbeats 4000000 in
set_option maxRecDepth 100000 in
theorem wX11_lowest_s15 (C : Cx p s m args meth c cX11_lowest 7 wsL_law RX11 none D G ad) (n : Nat)   (v3 : Int64) (v5 : Int64)   (st : St) (res : (Unit × St))  (hf : fX11_lowest_s15 n   v3 v5 st = some res) : At p l e (rmK 1) s m args below meth c D G ad (MQV D G ad below args s res) 7 st [(0, .ref (ad 130)), (3, .long v3), (5, .long v5)] 15 [] := by
  obtain ⟨hx, hb, hml, hown, hts, hr, hlk, hK, had, hSt⟩ := id C
  intro H locs ls hl hP hS
  unfold fX11_lowest_s15 at hf
  refine lv_aload_n hx hb dX11_lowest_15 rfl (lv_at hl 0 rfl) ?_
  refine lv_lload_n hx hb dX11_lowest_16 rfl (lv_at hl 1 rfl) ?_
  refine lv_lload hx hb dX11_lowest_17 (lv_at hl 2 rfl) ?_
  obtain ⟨g1, hf⟩ := gn hf
  refine lv_ldiv hx hb dX11_lowest_19 g1 ?_
  refine g_putJ hx hb hts inlX11 tyX11_ok nmX11 hown hK had hP hS 130 ct_130 rfl 46 (by decide) (hts _ wm_37_0) rfl rfl rfl dX11_lowest_20 (fun H locs hP hS => ?_)
  exact wX11_lowest_s23 C n (setJ st 130 46 (v3 / v5)) res hf H locs ls (lv_sub hl [0] rfl) hP hS
def fX11_lowest_s5 (n : Nat)   (v1 : Int64) (v3 : Int64) (k0 : Int64) (st : St) : Option (Unit × St) := if k0 = 0 then none else (fX11_lowest_s15 n v3 k0 (setJ st 130 45 (v1 / k0)))
set_option maxHeartbeats 4000000 in
set_option maxRecDepth 100000 in
theorem wX11_lowest_s5 (C : Cx p s m args meth c cX11_lowest 7 wsL_law RX11 none D G ad) (n : Nat)   (v1 : Int64) (v3 : Int64) (k0 : Int64)   (st : St) (res : (Unit × St))  (hf : fX11_lowest_s5 n   v1 v3 k0 st = some res) : At p l e (rmK 1) s m args below meth c D G ad (MQV D G ad below args s res) 7 st [(0, .ref (ad 130)), (1, .long v1), (3, .long v3)] 5 [.long k0] := by
  obtain ⟨hx, hb, hml, hown, hts, hr, hlk, hK, had, hSt⟩ := id C
  intro H locs ls hl hP hS
  unfold fX11_lowest_s5 at hf
  refine lv_lstore (lv' := [(5, .long k0), (0, .ref (ad 130)), (1, .long v1), (3, .long v3)]) hx hb dX11_lowest_5 hl (by decide) rfl (fun ls hl => ?_)
  refine lv_aload_n hx hb dX11_lowest_7 rfl (lv_at hl 1 rfl) ?_
  refine lv_lload_n hx hb dX11_lowest_8 rfl (lv_at hl 2 rfl) ?_
  refine lv_lload hx hb dX11_lowest_9 (lv_at hl 0 rfl) ?_
  obtain ⟨g1, hf⟩ := gn hf
  refine lv_ldiv hx hb dX11_lowest_11 g1 ?_
  refine g_putJ hx hb hts inlX11 tyX11_ok nmX11 hown hK had hP hS 130 ct_130 rfl 45 (by decide) (hts _ wm_36_23) rfl rfl rfl dX11_lowest_12 (fun H locs hP hS => ?_)
  exact wX11_lowest_s15 C n v3 k0 (setJ st 130 45 (v1 / k0)) res hf H locs ls (lv_sub hl [1, 3, 0] rfl) hP hS
def fX11_lowest_s0 (n : Nat)   (v1 : Int64) (v3 : Int64) (st : St) : Option (Unit × St) := (fX11_divisor n v1 v3 st).bind (fun q => fX11_lowest_s5 n v1 v3 q.1 q.2)
set_option maxHeartbeats 4000000 in
set_option maxRecDepth 100000 in
theorem wX11_lowest_s0 (C : Cx p s m args meth c cX11_lowest 7 wsL_law RX11 none D G ad) (n : Nat)   (v1 : Int64) (v3 : Int64)   (st : St) (res : (Unit × St))  (hf : fX11_lowest_s0 n   v1 v3 st = some res) : At p l e (rmK 1) s m args below meth c D G ad (MQV D G ad below args s res) 7 st [(0, .ref (ad 130)), (1, .long v1), (3, .long v3)] 0 [] := by
  obtain ⟨hx, hb, hml, hown, hts, hr, hlk, hK, had, hSt⟩ := id C
  intro H locs ls hl hP hS
  unfold fX11_lowest_s0 at hf
  refine lv_lload_n hx hb dX11_lowest_0 rfl (lv_at hl 1 rfl) ?_
  refine lv_lload_n hx hb dX11_lowest_1 rfl (lv_at hl 2 rfl) ?_
  obtain ⟨q, hq, hf⟩ := bd hf
  refine gcS_j (k := 0) (As := [.long v1, .long v3]) (rest := []) hx hb hml hown hts hK hSt hP hS hl.1 (goodS wm_34_9 wm_34_10 wm_1_5 wm_34_11) okX11_divisor (Nat.le_of_ble_eq_true rfl) (Nat.le_of_ble_eq_true rfl) rfl rfl (Nat.le_of_ble_eq_true rfl) dX11_lowest_2 (kX11_divisor l D G ad had n  v1 v3 st q hq) (fun H locs hP hS => ?_)
  exact wX11_lowest_s5 C n v1 v3 q.1 q.2 res hf H locs ls (lv_sub hl [0, 1, 2] rfl) hP hS
def fX11_lowest (n : Nat)  (a1 : Int64) (a3 : Int64) (st : St) : Option (Unit × St) := fX11_lowest_s0 n a1 a3 st
theorem okX11_lowest : okY yX11_lowest RX11 2 := by unfold okY; decide +kernel
end
set_option maxRecDepth 100000 in
theorem kX11_lowest (l : Launch) (D : va_G) (G : G3) (ad : Nat → Nat) (had : Adr ad) (n : Nat)   (a1 : Int64) (a3 : Int64) (st : St) (res : (Unit × St)) (hf : fX11_lowest n  a1 a3 st = some res) {sz : Nat} : CtV l yX11_lowest (wsU yX11_lowest cX11_lowest 7 none) (rmK 1) D G ad sz [.ref (ad 130), .long a1, .long a3] st res := by
  refine Met.ofW (cc := cX11_lowest) (maxL := 7) (ret := none) (by decide) rfl ?_
  intro p e s m args below meth c s₁ B hml hv
  obtain ⟨rfl, hsz, hP, hK, hSt⟩ := hv
  have hts := atoms_spec (ws := wsU yX11_lowest cX11_lowest 7 none) B.pre
  have C : Cx p s m _ meth c cX11_lowest 7 wsL_law RX11 none D G ad := ⟨B.exec, B.bytes, hml, findClass_of_methodNamed B.named, fun w h => hts w (List.mem_cons_of_mem _ h), B.returns, B.notSynchronized, hK, had, hSt⟩
  subst hsz
  have hl := lv_entry ([.ref (ad 130), .long a1, .long a3]) (n := 7) (Nat.le_of_ble_eq_true rfl)
  rw [lg_entry_eq]
  generalize (lg_sl ([.ref (ad 130), .long a1, .long a3]) ++ List.replicate (7 - (lg_sl ([.ref (ad 130), .long a1, .long a3])).length) Slot.unset).toArray = ls at hl ⊢
  exact wX11_lowest_s0 C n  a1 a3   st res hf s.heap [] ls (lv_sub hl [0, 1, 2] rfl) hP va_S.rf
section
variable {p : Program} {l : Launch} {e : Env} {s : State} {m : MethodId} {args : Array Value} {below : List Frame} {meth : Method} {c : Code} {D : va_G} {G : G3} {ad : Nat → Nat}
def fX11_adds_s17 (n : Nat)    (st : St) : Option (Unit × St) := some ((), st)
set_option maxHeartbeats 4000000 in
set_option maxRecDepth 100000 in
theorem wX11_adds_s17 (C : Cx p s m args meth c cX11_adds 9 wsL_law RX11 none D G ad) (n : Nat)      (st : St) (res : (Unit × St))  (hf : fX11_adds_s17 n    st = some res) : At p l e (rmK 2) s m args below meth c D G ad (MQV D G ad below args s res) 9 st [] 17 [] := by
  obtain ⟨hx, hb, hml, hown, hts, hr, hlk, hK, had, hSt⟩ := id C
  intro H locs ls hl hP hS
  unfold fX11_adds_s17 at hf
  exact g_vret hx hb hr hlk hP hS dX11_adds_17 hf
def fX11_adds_s0 (n : Nat)   (v1 : Int64) (v3 : Int64) (v5 : Int64) (v7 : Int64) (st : St) : Option (Unit × St) := (fX11_lowest n ((v1 * v7) + (v5 * v3)) (v3 * v7) st).bind (fun q => fX11_adds_s17 n q.2)
set_option maxHeartbeats 4000000 in
set_option maxRecDepth 100000 in
theorem wX11_adds_s0 (C : Cx p s m args meth c cX11_adds 9 wsL_law RX11 none D G ad) (n : Nat)   (v1 : Int64) (v3 : Int64) (v5 : Int64) (v7 : Int64)   (st : St) (res : (Unit × St))  (hf : fX11_adds_s0 n   v1 v3 v5 v7 st = some res) : At p l e (rmK 2) s m args below meth c D G ad (MQV D G ad below args s res) 9 st [(0, .ref (ad 130)), (1, .long v1), (3, .long v3), (5, .long v5), (7, .long v7)] 0 [] := by
  obtain ⟨hx, hb, hml, hown, hts, hr, hlk, hK, had, hSt⟩ := id C
  intro H locs ls hl hP hS
  unfold fX11_adds_s0 at hf
  refine lv_aload_n hx hb dX11_adds_0 rfl (lv_at hl 0 rfl) ?_
  refine lv_lload_n hx hb dX11_adds_1 rfl (lv_at hl 1 rfl) ?_
  refine lv_lload hx hb dX11_adds_2 (lv_at hl 4 rfl) ?_
  refine lv_lmul hx hb dX11_adds_4 ?_
  refine lv_lload hx hb dX11_adds_5 (lv_at hl 3 rfl) ?_
  refine lv_lload_n hx hb dX11_adds_7 rfl (lv_at hl 2 rfl) ?_
  refine lv_lmul hx hb dX11_adds_8 ?_
  refine lv_ladd hx hb dX11_adds_9 ?_
  refine lv_lload_n hx hb dX11_adds_10 rfl (lv_at hl 2 rfl) ?_
  refine lv_lload hx hb dX11_adds_11 (lv_at hl 4 rfl) ?_
  refine lv_lmul hx hb dX11_adds_13 ?_
  obtain ⟨q, hq, hf⟩ := bd hf
  refine gcV_v (k := 1) (o := 130) (As := [.long ((v1 * v7) + (v5 * v3)), .long (v3 * v7)]) (rest := []) hx hb hml hown hts hK hSt hP hS hl.1 (goodV wm_37_5 wm_37_6 wm_37_7 wm_1_5 wm_37_8) okX11_lowest ct_130 rfl rfl (Nat.le_of_ble_eq_true rfl) (Nat.le_of_ble_eq_true rfl) rfl rfl (Nat.le_of_ble_eq_true rfl) dX11_adds_14 (kX11_lowest l D G ad had n  ((v1 * v7) + (v5 * v3)) (v3 * v7) st q hq) (fun H locs hP hS => ?_)
  exact wX11_adds_s17 C n q.2 res hf H locs ls (lv_sub hl [] rfl) hP hS
def fX11_adds (n : Nat)  (a1 : Int64) (a3 : Int64) (a5 : Int64) (a7 : Int64) (st : St) : Option (Unit × St) := fX11_adds_s0 n a1 a3 a5 a7 st
theorem okX11_adds : okY yX11_adds RX11 4 := by unfold okY; decide +kernel
end
set_option maxRecDepth 100000 in
theorem kX11_adds (l : Launch) (D : va_G) (G : G3) (ad : Nat → Nat) (had : Adr ad) (n : Nat)   (a1 : Int64) (a3 : Int64) (a5 : Int64) (a7 : Int64) (st : St) (res : (Unit × St)) (hf : fX11_adds n  a1 a3 a5 a7 st = some res) {sz : Nat} : CtV l yX11_adds (wsU yX11_adds cX11_adds 9 none) (rmK 2) D G ad sz [.ref (ad 130), .long a1, .long a3, .long a5, .long a7] st res := by
  refine Met.ofW (cc := cX11_adds) (maxL := 9) (ret := none) (by decide) rfl ?_
  intro p e s m args below meth c s₁ B hml hv
  obtain ⟨rfl, hsz, hP, hK, hSt⟩ := hv
  have hts := atoms_spec (ws := wsU yX11_adds cX11_adds 9 none) B.pre
  have C : Cx p s m _ meth c cX11_adds 9 wsL_law RX11 none D G ad := ⟨B.exec, B.bytes, hml, findClass_of_methodNamed B.named, fun w h => hts w (List.mem_cons_of_mem _ h), B.returns, B.notSynchronized, hK, had, hSt⟩
  subst hsz
  have hl := lv_entry ([.ref (ad 130), .long a1, .long a3, .long a5, .long a7]) (n := 9) (Nat.le_of_ble_eq_true rfl)
  rw [lg_entry_eq]
  generalize (lg_sl ([.ref (ad 130), .long a1, .long a3, .long a5, .long a7]) ++ List.replicate (9 - (lg_sl ([.ref (ad 130), .long a1, .long a3, .long a5, .long a7])).length) Slot.unset).toArray = ls at hl ⊢
  exact wX11_adds_s0 C n  a1 a3 a5 a7   st res hf s.heap [] ls (lv_sub hl [0, 1, 2, 3, 4] rfl) hP va_S.rf
section
variable {p : Program} {l : Launch} {e : Env} {s : State} {m : MethodId} {args : Array Value} {below : List Frame} {meth : Method} {c : Code} {D : va_G} {G : G3} {ad : Nat → Nat}
def fX11_multiplies_s70 (n : Nat)    (st : St) : Option (Unit × St) := some ((), st)
set_option maxHeartbeats 4000000 in
set_option maxRecDepth 100000 in
theorem wX11_multiplies_s70 (C : Cx p s m args meth c cX11_multiplies 17 wsL_law RX11 none D G ad) (n : Nat)      (st : St) (res : (Unit × St))  (hf : fX11_multiplies_s70 n    st = some res) : At p l e (rmK 2) s m args below meth c D G ad (MQV D G ad below args s res) 17 st [] 70 [] := by
  obtain ⟨hx, hb, hml, hown, hts, hr, hlk, hK, had, hSt⟩ := id C
  intro H locs ls hl hP hS
  unfold fX11_multiplies_s70 at hf
  exact g_vret hx hb hr hlk hP hS dX11_multiplies_70 hf
def fX11_multiplies_s44 (n : Nat)   (v1 : Int64) (v3 : Int64) (v5 : Int64) (v7 : Int64) (v13 : Int64) (k0 : Int64) (st : St) : Option (Unit × St) := if v13 = 0 then none else (if k0 = 0 then none else (if k0 = 0 then none else (if v13 = 0 then none else ((fX11_lowest n ((v1 / v13) * (v5 / k0)) ((v3 / k0) * (v7 / v13)) st).bind (fun q => fX11_multiplies_s70 n q.2)))))
set_option maxHeartbeats 4000000 in
set_option maxRecDepth 100000 in
theorem wX11_multiplies_s44 (C : Cx p s m args meth c cX11_multiplies 17 wsL_law RX11 none D G ad) (n : Nat)   (v1 : Int64) (v3 : Int64) (v5 : Int64) (v7 : Int64) (v13 : Int64) (k0 : Int64)   (st : St) (res : (Unit × St))  (hf : fX11_multiplies_s44 n   v1 v3 v5 v7 v13 k0 st = some res) : At p l e (rmK 2) s m args below meth c D G ad (MQV D G ad below args s res) 17 st [(0, .ref (ad 130)), (1, .long v1), (3, .long v3), (5, .long v5), (7, .long v7), (13, .long v13)] 44 [.long k0] := by
  obtain ⟨hx, hb, hml, hown, hts, hr, hlk, hK, had, hSt⟩ := id C
  intro H locs ls hl hP hS
  unfold fX11_multiplies_s44 at hf
  refine lv_lstore (lv' := [(15, .long k0), (0, .ref (ad 130)), (1, .long v1), (3, .long v3), (5, .long v5), (7, .long v7), (13, .long v13)]) hx hb dX11_multiplies_44 hl (by decide) rfl (fun ls hl => ?_)
  refine lv_aload_n hx hb dX11_multiplies_46 rfl (lv_at hl 1 rfl) ?_
  refine lv_lload_n hx hb dX11_multiplies_47 rfl (lv_at hl 2 rfl) ?_
  refine lv_lload hx hb dX11_multiplies_48 (lv_at hl 6 rfl) ?_
  obtain ⟨g1, hf⟩ := gn hf
  refine lv_ldiv hx hb dX11_multiplies_50 g1 ?_
  refine lv_lload hx hb dX11_multiplies_51 (lv_at hl 4 rfl) ?_
  refine lv_lload hx hb dX11_multiplies_53 (lv_at hl 0 rfl) ?_
  obtain ⟨g2, hf⟩ := gn hf
  refine lv_ldiv hx hb dX11_multiplies_55 g2 ?_
  refine lv_lmul hx hb dX11_multiplies_56 ?_
  refine lv_lload_n hx hb dX11_multiplies_57 rfl (lv_at hl 3 rfl) ?_
  refine lv_lload hx hb dX11_multiplies_58 (lv_at hl 0 rfl) ?_
  obtain ⟨g3, hf⟩ := gn hf
  refine lv_ldiv hx hb dX11_multiplies_60 g3 ?_
  refine lv_lload hx hb dX11_multiplies_61 (lv_at hl 5 rfl) ?_
  refine lv_lload hx hb dX11_multiplies_63 (lv_at hl 6 rfl) ?_
  obtain ⟨g4, hf⟩ := gn hf
  refine lv_ldiv hx hb dX11_multiplies_65 g4 ?_
  refine lv_lmul hx hb dX11_multiplies_66 ?_
  obtain ⟨q, hq, hf⟩ := bd hf
  refine gcV_v (k := 1) (o := 130) (As := [.long ((v1 / v13) * (v5 / k0)), .long ((v3 / k0) * (v7 / v13))]) (rest := []) hx hb hml hown hts hK hSt hP hS hl.1 (goodV wm_37_5 wm_37_6 wm_37_7 wm_1_5 wm_37_8) okX11_lowest ct_130 rfl rfl (Nat.le_of_ble_eq_true rfl) (Nat.le_of_ble_eq_true rfl) rfl rfl (Nat.le_of_ble_eq_true rfl) dX11_multiplies_67 (kX11_lowest l D G ad had n  ((v1 / v13) * (v5 / k0)) ((v3 / k0) * (v7 / v13)) st q hq) (fun H locs hP hS => ?_)
  exact wX11_multiplies_s70 C n q.2 res hf H locs ls (lv_sub hl [] rfl) hP hS
def fX11_multiplies_s42 (n : Nat)   (v1 : Int64) (v3 : Int64) (v5 : Int64) (v7 : Int64) (v11 : Int64) (v13 : Int64) (st : St) : Option (Unit × St) := fX11_multiplies_s44 n v1 v3 v5 v7 v13 v11 st
set_option maxHeartbeats 4000000 in
set_option maxRecDepth 100000 in
theorem wX11_multiplies_s42 (C : Cx p s m args meth c cX11_multiplies 17 wsL_law RX11 none D G ad) (n : Nat)   (v1 : Int64) (v3 : Int64) (v5 : Int64) (v7 : Int64) (v11 : Int64) (v13 : Int64)   (st : St) (res : (Unit × St))  (hf : fX11_multiplies_s42 n   v1 v3 v5 v7 v11 v13 st = some res) : At p l e (rmK 2) s m args below meth c D G ad (MQV D G ad below args s res) 17 st [(0, .ref (ad 130)), (1, .long v1), (3, .long v3), (5, .long v5), (7, .long v7), (11, .long v11), (13, .long v13)] 42 [] := by
  obtain ⟨hx, hb, hml, hown, hts, hr, hlk, hK, had, hSt⟩ := id C
  intro H locs ls hl hP hS
  unfold fX11_multiplies_s42 at hf
  refine lv_lload hx hb dX11_multiplies_42 (lv_at hl 5 rfl) ?_
  exact wX11_multiplies_s44 C n v1 v3 v5 v7 v13 v11 st res hf H locs ls (lv_sub hl [0, 1, 2, 3, 4, 6] rfl) hP hS
def fX11_multiplies_s38 (n : Nat)   (v1 : Int64) (v3 : Int64) (v5 : Int64) (v7 : Int64) (v13 : Int64) (st : St) : Option (Unit × St) := fX11_multiplies_s44 n v1 v3 v5 v7 v13 1 st
set_option maxHeartbeats 4000000 in
set_option maxRecDepth 100000 in
theorem wX11_multiplies_s38 (C : Cx p s m args meth c cX11_multiplies 17 wsL_law RX11 none D G ad) (n : Nat)   (v1 : Int64) (v3 : Int64) (v5 : Int64) (v7 : Int64) (v13 : Int64)   (st : St) (res : (Unit × St))  (hf : fX11_multiplies_s38 n   v1 v3 v5 v7 v13 st = some res) : At p l e (rmK 2) s m args below meth c D G ad (MQV D G ad below args s res) 17 st [(0, .ref (ad 130)), (1, .long v1), (3, .long v3), (5, .long v5), (7, .long v7), (13, .long v13)] 38 [] := by
  obtain ⟨hx, hb, hml, hown, hts, hr, hlk, hK, had, hSt⟩ := id C
  intro H locs ls hl hP hS
  unfold fX11_multiplies_s38 at hf
  refine lv_lconst (v := 1) hx hb dX11_multiplies_38 (by decide) ?_
  refine lv_goto (tgt := 44) hx hb dX11_multiplies_39 (by decide) ?_
  exact wX11_multiplies_s44 C n v1 v3 v5 v7 v13 1 st res hf H locs ls (lv_sub hl [0, 1, 2, 3, 4, 5] rfl) hP hS
def fX11_multiplies_s29 (n : Nat)   (v1 : Int64) (v3 : Int64) (v5 : Int64) (v7 : Int64) (v11 : Int64) (k0 : Int64) (st : St) : Option (Unit × St) := if v11 = 0 then fX11_multiplies_s38 n v1 v3 v5 v7 k0 st else fX11_multiplies_s42 n v1 v3 v5 v7 v11 k0 st
set_option maxHeartbeats 4000000 in
set_option maxRecDepth 100000 in
theorem wX11_multiplies_s29 (C : Cx p s m args meth c cX11_multiplies 17 wsL_law RX11 none D G ad) (n : Nat)   (v1 : Int64) (v3 : Int64) (v5 : Int64) (v7 : Int64) (v11 : Int64) (k0 : Int64)   (st : St) (res : (Unit × St))  (hf : fX11_multiplies_s29 n   v1 v3 v5 v7 v11 k0 st = some res) : At p l e (rmK 2) s m args below meth c D G ad (MQV D G ad below args s res) 17 st [(0, .ref (ad 130)), (1, .long v1), (3, .long v3), (5, .long v5), (7, .long v7), (11, .long v11)] 29 [.long k0] := by
  obtain ⟨hx, hb, hml, hown, hts, hr, hlk, hK, had, hSt⟩ := id C
  intro H locs ls hl hP hS
  unfold fX11_multiplies_s29 at hf
  refine lv_lstore (lv' := [(13, .long k0), (0, .ref (ad 130)), (1, .long v1), (3, .long v3), (5, .long v5), (7, .long v7), (11, .long v11)]) hx hb dX11_multiplies_29 hl (by decide) rfl (fun ls hl => ?_)
  refine lv_lload hx hb dX11_multiplies_31 (lv_at hl 6 rfl) ?_
  refine lv_lconst (v := 0) hx hb dX11_multiplies_33 (by decide) ?_
  refine g_lcmp_ne (tgt := 42) hx hb dX11_multiplies_34 dX11_multiplies_35 (by decide) (fun q => ?_) (fun q => ?_)
  · exact wX11_multiplies_s42 C n v1 v3 v5 v7 v11 k0 st res (ie hf q) H locs ls (lv_sub hl [1, 2, 3, 4, 5, 6, 0] rfl) hP hS
  · exact wX11_multiplies_s38 C n v1 v3 v5 v7 k0 st res (it hf q) H locs ls (lv_sub hl [1, 2, 3, 4, 5, 0] rfl) hP hS
def fX11_multiplies_s27 (n : Nat)   (v1 : Int64) (v3 : Int64) (v5 : Int64) (v7 : Int64) (v9 : Int64) (v11 : Int64) (st : St) : Option (Unit × St) := fX11_multiplies_s29 n v1 v3 v5 v7 v11 v9 st
set_option maxHeartbeats 4000000 in
set_option maxRecDepth 100000 in
theorem wX11_multiplies_s27 (C : Cx p s m args meth c cX11_multiplies 17 wsL_law RX11 none D G ad) (n : Nat)   (v1 : Int64) (v3 : Int64) (v5 : Int64) (v7 : Int64) (v9 : Int64) (v11 : Int64)   (st : St) (res : (Unit × St))  (hf : fX11_multiplies_s27 n   v1 v3 v5 v7 v9 v11 st = some res) : At p l e (rmK 2) s m args below meth c D G ad (MQV D G ad below args s res) 17 st [(0, .ref (ad 130)), (1, .long v1), (3, .long v3), (5, .long v5), (7, .long v7), (9, .long v9), (11, .long v11)] 27 [] := by
  obtain ⟨hx, hb, hml, hown, hts, hr, hlk, hK, had, hSt⟩ := id C
  intro H locs ls hl hP hS
  unfold fX11_multiplies_s27 at hf
  refine lv_lload hx hb dX11_multiplies_27 (lv_at hl 5 rfl) ?_
  exact wX11_multiplies_s29 C n v1 v3 v5 v7 v11 v9 st res hf H locs ls (lv_sub hl [0, 1, 2, 3, 4, 6] rfl) hP hS
def fX11_multiplies_s23 (n : Nat)   (v1 : Int64) (v3 : Int64) (v5 : Int64) (v7 : Int64) (v11 : Int64) (st : St) : Option (Unit × St) := fX11_multiplies_s29 n v1 v3 v5 v7 v11 1 st
set_option maxHeartbeats 4000000 in
set_option maxRecDepth 100000 in
theorem wX11_multiplies_s23 (C : Cx p s m args meth c cX11_multiplies 17 wsL_law RX11 none D G ad) (n : Nat)   (v1 : Int64) (v3 : Int64) (v5 : Int64) (v7 : Int64) (v11 : Int64)   (st : St) (res : (Unit × St))  (hf : fX11_multiplies_s23 n   v1 v3 v5 v7 v11 st = some res) : At p l e (rmK 2) s m args below meth c D G ad (MQV D G ad below args s res) 17 st [(0, .ref (ad 130)), (1, .long v1), (3, .long v3), (5, .long v5), (7, .long v7), (11, .long v11)] 23 [] := by
  obtain ⟨hx, hb, hml, hown, hts, hr, hlk, hK, had, hSt⟩ := id C
  intro H locs ls hl hP hS
  unfold fX11_multiplies_s23 at hf
  refine lv_lconst (v := 1) hx hb dX11_multiplies_23 (by decide) ?_
  refine lv_goto (tgt := 29) hx hb dX11_multiplies_24 (by decide) ?_
  exact wX11_multiplies_s29 C n v1 v3 v5 v7 v11 1 st res hf H locs ls (lv_sub hl [0, 1, 2, 3, 4, 5] rfl) hP hS
def fX11_multiplies_s14 (n : Nat)   (v1 : Int64) (v3 : Int64) (v5 : Int64) (v7 : Int64) (v9 : Int64) (k0 : Int64) (st : St) : Option (Unit × St) := if v9 = 0 then fX11_multiplies_s23 n v1 v3 v5 v7 k0 st else fX11_multiplies_s27 n v1 v3 v5 v7 v9 k0 st
set_option maxHeartbeats 4000000 in
set_option maxRecDepth 100000 in
theorem wX11_multiplies_s14 (C : Cx p s m args meth c cX11_multiplies 17 wsL_law RX11 none D G ad) (n : Nat)   (v1 : Int64) (v3 : Int64) (v5 : Int64) (v7 : Int64) (v9 : Int64) (k0 : Int64)   (st : St) (res : (Unit × St))  (hf : fX11_multiplies_s14 n   v1 v3 v5 v7 v9 k0 st = some res) : At p l e (rmK 2) s m args below meth c D G ad (MQV D G ad below args s res) 17 st [(0, .ref (ad 130)), (1, .long v1), (3, .long v3), (5, .long v5), (7, .long v7), (9, .long v9)] 14 [.long k0] := by
  obtain ⟨hx, hb, hml, hown, hts, hr, hlk, hK, had, hSt⟩ := id C
  intro H locs ls hl hP hS
  unfold fX11_multiplies_s14 at hf
  refine lv_lstore (lv' := [(11, .long k0), (0, .ref (ad 130)), (1, .long v1), (3, .long v3), (5, .long v5), (7, .long v7), (9, .long v9)]) hx hb dX11_multiplies_14 hl (by decide) rfl (fun ls hl => ?_)
  refine lv_lload hx hb dX11_multiplies_16 (lv_at hl 6 rfl) ?_
  refine lv_lconst (v := 0) hx hb dX11_multiplies_18 (by decide) ?_
  refine g_lcmp_ne (tgt := 27) hx hb dX11_multiplies_19 dX11_multiplies_20 (by decide) (fun q => ?_) (fun q => ?_)
  · exact wX11_multiplies_s27 C n v1 v3 v5 v7 v9 k0 st res (ie hf q) H locs ls (lv_sub hl [1, 2, 3, 4, 5, 6, 0] rfl) hP hS
  · exact wX11_multiplies_s23 C n v1 v3 v5 v7 k0 st res (it hf q) H locs ls (lv_sub hl [1, 2, 3, 4, 5, 0] rfl) hP hS
def fX11_multiplies_s6 (n : Nat)   (v1 : Int64) (v3 : Int64) (v5 : Int64) (v7 : Int64) (k0 : Int64) (st : St) : Option (Unit × St) := (fX11_divisor n v5 v3 st).bind (fun q => fX11_multiplies_s14 n v1 v3 v5 v7 k0 q.1 q.2)
set_option maxHeartbeats 4000000 in
set_option maxRecDepth 100000 in
theorem wX11_multiplies_s6 (C : Cx p s m args meth c cX11_multiplies 17 wsL_law RX11 none D G ad) (n : Nat)   (v1 : Int64) (v3 : Int64) (v5 : Int64) (v7 : Int64) (k0 : Int64)   (st : St) (res : (Unit × St))  (hf : fX11_multiplies_s6 n   v1 v3 v5 v7 k0 st = some res) : At p l e (rmK 2) s m args below meth c D G ad (MQV D G ad below args s res) 17 st [(0, .ref (ad 130)), (1, .long v1), (3, .long v3), (5, .long v5), (7, .long v7)] 6 [.long k0] := by
  obtain ⟨hx, hb, hml, hown, hts, hr, hlk, hK, had, hSt⟩ := id C
  intro H locs ls hl hP hS
  unfold fX11_multiplies_s6 at hf
  refine lv_lstore (lv' := [(9, .long k0), (0, .ref (ad 130)), (1, .long v1), (3, .long v3), (5, .long v5), (7, .long v7)]) hx hb dX11_multiplies_6 hl (by decide) rfl (fun ls hl => ?_)
  refine lv_lload hx hb dX11_multiplies_8 (lv_at hl 4 rfl) ?_
  refine lv_lload_n hx hb dX11_multiplies_10 rfl (lv_at hl 3 rfl) ?_
  obtain ⟨q, hq, hf⟩ := bd hf
  refine gcS_j (k := 0) (As := [.long v5, .long v3]) (rest := []) hx hb hml hown hts hK hSt hP hS hl.1 (goodS wm_34_9 wm_34_10 wm_1_5 wm_34_11) okX11_divisor (Nat.le_of_ble_eq_true rfl) (Nat.le_of_ble_eq_true rfl) rfl rfl (Nat.le_of_ble_eq_true rfl) dX11_multiplies_11 (kX11_divisor l D G ad had n  v5 v3 st q hq) (fun H locs hP hS => ?_)
  exact wX11_multiplies_s14 C n v1 v3 v5 v7 k0 q.1 q.2 res hf H locs ls (lv_sub hl [1, 2, 3, 4, 5, 0] rfl) hP hS
def fX11_multiplies_s0 (n : Nat)   (v1 : Int64) (v3 : Int64) (v5 : Int64) (v7 : Int64) (st : St) : Option (Unit × St) := (fX11_divisor n v1 v7 st).bind (fun q => fX11_multiplies_s6 n v1 v3 v5 v7 q.1 q.2)
set_option maxHeartbeats 4000000 in
set_option maxRecDepth 100000 in
theorem wX11_multiplies_s0 (C : Cx p s m args meth c cX11_multiplies 17 wsL_law RX11 none D G ad) (n : Nat)   (v1 : Int64) (v3 : Int64) (v5 : Int64) (v7 : Int64)   (st : St) (res : (Unit × St))  (hf : fX11_multiplies_s0 n   v1 v3 v5 v7 st = some res) : At p l e (rmK 2) s m args below meth c D G ad (MQV D G ad below args s res) 17 st [(0, .ref (ad 130)), (1, .long v1), (3, .long v3), (5, .long v5), (7, .long v7)] 0 [] := by
  obtain ⟨hx, hb, hml, hown, hts, hr, hlk, hK, had, hSt⟩ := id C
  intro H locs ls hl hP hS
  unfold fX11_multiplies_s0 at hf
  refine lv_lload_n hx hb dX11_multiplies_0 rfl (lv_at hl 1 rfl) ?_
  refine lv_lload hx hb dX11_multiplies_1 (lv_at hl 4 rfl) ?_
  obtain ⟨q, hq, hf⟩ := bd hf
  refine gcS_j (k := 0) (As := [.long v1, .long v7]) (rest := []) hx hb hml hown hts hK hSt hP hS hl.1 (goodS wm_34_9 wm_34_10 wm_1_5 wm_34_11) okX11_divisor (Nat.le_of_ble_eq_true rfl) (Nat.le_of_ble_eq_true rfl) rfl rfl (Nat.le_of_ble_eq_true rfl) dX11_multiplies_3 (kX11_divisor l D G ad had n  v1 v7 st q hq) (fun H locs hP hS => ?_)
  exact wX11_multiplies_s6 C n v1 v3 v5 v7 q.1 q.2 res hf H locs ls (lv_sub hl [0, 1, 2, 3, 4] rfl) hP hS
def fX11_multiplies (n : Nat)  (a1 : Int64) (a3 : Int64) (a5 : Int64) (a7 : Int64) (st : St) : Option (Unit × St) := fX11_multiplies_s0 n a1 a3 a5 a7 st
theorem okX11_multiplies : okY yX11_multiplies RX11 4 := by unfold okY; decide +kernel
end
set_option maxRecDepth 100000 in
theorem kX11_multiplies (l : Launch) (D : va_G) (G : G3) (ad : Nat → Nat) (had : Adr ad) (n : Nat)   (a1 : Int64) (a3 : Int64) (a5 : Int64) (a7 : Int64) (st : St) (res : (Unit × St)) (hf : fX11_multiplies n  a1 a3 a5 a7 st = some res) {sz : Nat} : CtV l yX11_multiplies (wsU yX11_multiplies cX11_multiplies 17 none) (rmK 2) D G ad sz [.ref (ad 130), .long a1, .long a3, .long a5, .long a7] st res := by
  refine Met.ofW (cc := cX11_multiplies) (maxL := 17) (ret := none) (by decide) rfl ?_
  intro p e s m args below meth c s₁ B hml hv
  obtain ⟨rfl, hsz, hP, hK, hSt⟩ := hv
  have hts := atoms_spec (ws := wsU yX11_multiplies cX11_multiplies 17 none) B.pre
  have C : Cx p s m _ meth c cX11_multiplies 17 wsL_law RX11 none D G ad := ⟨B.exec, B.bytes, hml, findClass_of_methodNamed B.named, fun w h => hts w (List.mem_cons_of_mem _ h), B.returns, B.notSynchronized, hK, had, hSt⟩
  subst hsz
  have hl := lv_entry ([.ref (ad 130), .long a1, .long a3, .long a5, .long a7]) (n := 17) (Nat.le_of_ble_eq_true rfl)
  rw [lg_entry_eq]
  generalize (lg_sl ([.ref (ad 130), .long a1, .long a3, .long a5, .long a7]) ++ List.replicate (17 - (lg_sl ([.ref (ad 130), .long a1, .long a3, .long a5, .long a7])).length) Slot.unset).toArray = ls at hl ⊢
  exact wX11_multiplies_s0 C n  a1 a3 a5 a7   st res hf s.heap [] ls (lv_sub hl [0, 1, 2, 3, 4] rfl) hP va_S.rf
section
variable {p : Program} {l : Launch} {e : Env} {s : State} {m : MethodId} {args : Array Value} {below : List Frame} {meth : Method} {c : Code} {D : va_G} {G : G3} {ad : Nat → Nat}
def fX11_findEchoes_s286 (n : Nat)    (st : St) : Option (Unit × St) := some ((), st)
set_option maxHeartbeats 4000000 in
set_option maxRecDepth 100000 in
theorem wX11_findEchoes_s286 (C : Cx p s m args meth c cX11_findEchoes 5 wsL_law RX11 none D G ad) (n : Nat)      (st : St) (res : (Unit × St))  (hf : fX11_findEchoes_s286 n    st = some res) : At p l e (rmK 3) s m args below meth c D G ad (MQV D G ad below args s res) 5 st [] 286 [] := by
  obtain ⟨hx, hb, hml, hown, hts, hr, hlk, hK, had, hSt⟩ := id C
  intro H locs ls hl hP hS
  unfold fX11_findEchoes_s286 at hf
  exact g_vret hx hb hr hlk hP hS dX11_findEchoes_286 hf
def fX11_findEchoes_s280 (n : Nat) (K27 : Int32 → Int32 → St → Option (Unit × St))  (v1 : Int32) (v2 : Int32) (st : St) : Option (Unit × St) := K27 v1 (v2 + 1) st
set_option maxHeartbeats 4000000 in
set_option maxRecDepth 100000 in
theorem wX11_findEchoes_s280 (C : Cx p s m args meth c cX11_findEchoes 5 wsL_law RX11 none D G ad) (n : Nat) (K27 : Int32 → Int32 → St → Option (Unit × St))  (v1 : Int32) (v2 : Int32)   (st : St) (res : (Unit × St)) (hK27 : ∀ (v1 : Int32) (v2 : Int32) (st : St), K27 v1 v2 st = some res → At p l e (rmK 3) s m args below meth c D G ad (MQV D G ad below args s res) 5 st [(0, .ref (ad 130)), (1, .int v1), (2, .int v2)] 27 []) (hf : fX11_findEchoes_s280 n K27  v1 v2 st = some res) : At p l e (rmK 3) s m args below meth c D G ad (MQV D G ad below args s res) 5 st [(0, .ref (ad 130)), (1, .int v1), (2, .int v2)] 280 [] := by
  obtain ⟨hx, hb, hml, hown, hts, hr, hlk, hK, had, hSt⟩ := id C
  intro H locs ls hl hP hS
  unfold fX11_findEchoes_s280 at hf
  refine lv_iinc (v := v2 + 1) (lv' := [(2, .int (v2 + 1)), (0, .ref (ad 130)), (1, .int v1)]) hx hb dX11_findEchoes_280 hl (k := 2) rfl rfl (by decide) rfl (fun ls hl => ?_)
  refine lv_goto (tgt := 27) hx hb dX11_findEchoes_283 (by decide) ?_
  exact hK27 v1 (v2 + 1)  st hf H locs ls (lv_sub hl [1, 2, 0] rfl) hP hS
def fX11_findEchoes_s272 (n : Nat) (K27 : Int32 → Int32 → St → Option (Unit × St))  (v1 : Int32) (v2 : Int32) (st : St) : Option (Unit × St) := fX11_findEchoes_s280 n K27 v1 v2 (setJ st 130 53 (st.2 130 46))
set_option maxHeartbeats 4000000 in
set_option maxRecDepth 100000 in
theorem wX11_findEchoes_s272 (C : Cx p s m args meth c cX11_findEchoes 5 wsL_law RX11 none D G ad) (n : Nat) (K27 : Int32 → Int32 → St → Option (Unit × St))  (v1 : Int32) (v2 : Int32)   (st : St) (res : (Unit × St)) (hK27 : ∀ (v1 : Int32) (v2 : Int32) (st : St), K27 v1 v2 st = some res → At p l e (rmK 3) s m args below meth c D G ad (MQV D G ad below args s res) 5 st [(0, .ref (ad 130)), (1, .int v1), (2, .int v2)] 27 []) (hf : fX11_findEchoes_s272 n K27  v1 v2 st = some res) : At p l e (rmK 3) s m args below meth c D G ad (MQV D G ad below args s res) 5 st [(0, .ref (ad 130)), (1, .int v1), (2, .int v2)] 272 [] := by
  obtain ⟨hx, hb, hml, hown, hts, hr, hlk, hK, had, hSt⟩ := id C
  intro H locs ls hl hP hS
  unfold fX11_findEchoes_s272 at hf
  refine lv_aload_n hx hb dX11_findEchoes_272 rfl (lv_at hl 0 rfl) ?_
  refine lv_aload_n hx hb dX11_findEchoes_273 rfl (lv_at hl 0 rfl) ?_
  refine g_getJ hx hb hts inlX11 hown hK hP 130 ct_130 rfl 46 (by decide) (hts _ wm_37_0) rfl dX11_findEchoes_274 ?_
  refine g_putJ hx hb hts inlX11 tyX11_ok nmX11 hown hK had hP hS 130 ct_130 rfl 53 (by decide) (hts _ wm_36_22) rfl rfl rfl dX11_findEchoes_277 (fun H locs hP hS => ?_)
  exact wX11_findEchoes_s280 C n K27 v1 v2 (setJ st 130 53 (st.2 130 46)) res hK27 hf H locs ls (lv_sub hl [0, 1, 2] rfl) hP hS
def fX11_findEchoes_s264 (n : Nat) (K27 : Int32 → Int32 → St → Option (Unit × St))  (v1 : Int32) (v2 : Int32) (st : St) : Option (Unit × St) := fX11_findEchoes_s272 n K27 v1 v2 (setJ st 130 52 (st.2 130 45))
set_option maxHeartbeats 4000000 in
set_option maxRecDepth 100000 in
theorem wX11_findEchoes_s264 (C : Cx p s m args meth c cX11_findEchoes 5 wsL_law RX11 none D G ad) (n : Nat) (K27 : Int32 → Int32 → St → Option (Unit × St))  (v1 : Int32) (v2 : Int32)   (st : St) (res : (Unit × St)) (hK27 : ∀ (v1 : Int32) (v2 : Int32) (st : St), K27 v1 v2 st = some res → At p l e (rmK 3) s m args below meth c D G ad (MQV D G ad below args s res) 5 st [(0, .ref (ad 130)), (1, .int v1), (2, .int v2)] 27 []) (hf : fX11_findEchoes_s264 n K27  v1 v2 st = some res) : At p l e (rmK 3) s m args below meth c D G ad (MQV D G ad below args s res) 5 st [(0, .ref (ad 130)), (1, .int v1), (2, .int v2)] 264 [] := by
  obtain ⟨hx, hb, hml, hown, hts, hr, hlk, hK, had, hSt⟩ := id C
  intro H locs ls hl hP hS
  unfold fX11_findEchoes_s264 at hf
  refine lv_aload_n hx hb dX11_findEchoes_264 rfl (lv_at hl 0 rfl) ?_
  refine lv_aload_n hx hb dX11_findEchoes_265 rfl (lv_at hl 0 rfl) ?_
  refine g_getJ hx hb hts inlX11 hown hK hP 130 ct_130 rfl 45 (by decide) (hts _ wm_36_23) rfl dX11_findEchoes_266 ?_
  refine g_putJ hx hb hts inlX11 tyX11_ok nmX11 hown hK had hP hS 130 ct_130 rfl 52 (by decide) (hts _ wm_36_21) rfl rfl rfl dX11_findEchoes_269 (fun H locs hP hS => ?_)
  exact wX11_findEchoes_s272 C n K27 v1 v2 (setJ st 130 52 (st.2 130 45)) res hK27 hf H locs ls (lv_sub hl [0, 1, 2] rfl) hP hS
def fX11_findEchoes_s244 (n : Nat) (K27 : Int32 → Int32 → St → Option (Unit × St))  (v1 : Int32) (v2 : Int32) (st : St) : Option (Unit × St) := (fX11_adds n (st.2 130 52) (st.2 130 53) (st.2 130 45) (st.2 130 46) st).bind (fun q => fX11_findEchoes_s264 n K27 v1 v2 q.2)
set_option maxHeartbeats 4000000 in
set_option maxRecDepth 100000 in
theorem wX11_findEchoes_s244 (C : Cx p s m args meth c cX11_findEchoes 5 wsL_law RX11 none D G ad) (n : Nat) (K27 : Int32 → Int32 → St → Option (Unit × St))  (v1 : Int32) (v2 : Int32)   (st : St) (res : (Unit × St)) (hK27 : ∀ (v1 : Int32) (v2 : Int32) (st : St), K27 v1 v2 st = some res → At p l e (rmK 3) s m args below meth c D G ad (MQV D G ad below args s res) 5 st [(0, .ref (ad 130)), (1, .int v1), (2, .int v2)] 27 []) (hf : fX11_findEchoes_s244 n K27  v1 v2 st = some res) : At p l e (rmK 3) s m args below meth c D G ad (MQV D G ad below args s res) 5 st [(0, .ref (ad 130)), (1, .int v1), (2, .int v2)] 244 [] := by
  obtain ⟨hx, hb, hml, hown, hts, hr, hlk, hK, had, hSt⟩ := id C
  intro H locs ls hl hP hS
  unfold fX11_findEchoes_s244 at hf
  refine lv_aload_n hx hb dX11_findEchoes_244 rfl (lv_at hl 0 rfl) ?_
  refine lv_aload_n hx hb dX11_findEchoes_245 rfl (lv_at hl 0 rfl) ?_
  refine g_getJ hx hb hts inlX11 hown hK hP 130 ct_130 rfl 52 (by decide) (hts _ wm_36_21) rfl dX11_findEchoes_246 ?_
  refine lv_aload_n hx hb dX11_findEchoes_249 rfl (lv_at hl 0 rfl) ?_
  refine g_getJ hx hb hts inlX11 hown hK hP 130 ct_130 rfl 53 (by decide) (hts _ wm_36_22) rfl dX11_findEchoes_250 ?_
  refine lv_aload_n hx hb dX11_findEchoes_253 rfl (lv_at hl 0 rfl) ?_
  refine g_getJ hx hb hts inlX11 hown hK hP 130 ct_130 rfl 45 (by decide) (hts _ wm_36_23) rfl dX11_findEchoes_254 ?_
  refine lv_aload_n hx hb dX11_findEchoes_257 rfl (lv_at hl 0 rfl) ?_
  refine g_getJ hx hb hts inlX11 hown hK hP 130 ct_130 rfl 46 (by decide) (hts _ wm_37_0) rfl dX11_findEchoes_258 ?_
  obtain ⟨q, hq, hf⟩ := bd hf
  refine gcV_v (k := 2) (o := 130) (As := [.long (st.2 130 52), .long (st.2 130 53), .long (st.2 130 45), .long (st.2 130 46)]) (rest := []) hx hb hml hown hts hK hSt hP hS hl.1 (goodV wm_37_1 wm_37_2 wm_37_3 wm_1_5 wm_37_4) okX11_adds ct_130 rfl rfl (Nat.le_of_ble_eq_true rfl) (Nat.le_of_ble_eq_true rfl) rfl rfl (Nat.le_of_ble_eq_true rfl) dX11_findEchoes_261 (kX11_adds l D G ad had n  (st.2 130 52) (st.2 130 53) (st.2 130 45) (st.2 130 46) st q hq) (fun H locs hP hS => ?_)
  exact wX11_findEchoes_s264 C n K27 v1 v2 q.2 res hK27 hf H locs ls (lv_sub hl [0, 1, 2] rfl) hP hS
def fX11_findEchoes_s234 (n : Nat) (K27 : Int32 → Int32 → St → Option (Unit × St))  (v1 : Int32) (v2 : Int32) (st : St) : Option (Unit × St) := if inb v2 31 = true then (fX11_findEchoes_s244 n K27 v1 v2 (setJ st 160 v2.toNatClampNeg (st.2 130 46))) else none
set_option maxHeartbeats 4000000 in
set_option maxRecDepth 100000 in
theorem wX11_findEchoes_s234 (C : Cx p s m args meth c cX11_findEchoes 5 wsL_law RX11 none D G ad) (n : Nat) (K27 : Int32 → Int32 → St → Option (Unit × St))  (v1 : Int32) (v2 : Int32)   (st : St) (res : (Unit × St)) (hK27 : ∀ (v1 : Int32) (v2 : Int32) (st : St), K27 v1 v2 st = some res → At p l e (rmK 3) s m args below meth c D G ad (MQV D G ad below args s res) 5 st [(0, .ref (ad 130)), (1, .int v1), (2, .int v2)] 27 []) (hf : fX11_findEchoes_s234 n K27  v1 v2 st = some res) : At p l e (rmK 3) s m args below meth c D G ad (MQV D G ad below args s res) 5 st [(0, .ref (ad 130)), (1, .int v1), (2, .int v2)] 234 [] := by
  obtain ⟨hx, hb, hml, hown, hts, hr, hlk, hK, had, hSt⟩ := id C
  intro H locs ls hl hP hS
  unfold fX11_findEchoes_s234 at hf
  refine lv_aload_n hx hb dX11_findEchoes_234 rfl (lv_at hl 0 rfl) ?_
  refine g_getR hx hb hts inlX11 hown hK hP 130 ct_130 rfl 49 (by decide) (hts _ wm_8_12) rfl dX11_findEchoes_235 ?_
  refine lv_iload_n hx hb dX11_findEchoes_238 rfl (lv_at hl 2 rfl) ?_
  refine lv_aload_n hx hb dX11_findEchoes_239 rfl (lv_at hl 0 rfl) ?_
  refine g_getJ hx hb hts inlX11 hown hK hP 130 ct_130 rfl 46 (by decide) (hts _ wm_37_0) rfl dX11_findEchoes_240 ?_
  obtain ⟨g1, hf⟩ := gd hf
  refine g_last hx hb hK had hP hS 160 ct_160 g1 dX11_findEchoes_243 (fun H locs hP hS => ?_)
  exact wX11_findEchoes_s244 C n K27 v1 v2 (setJ st 160 v2.toNatClampNeg (st.2 130 46)) res hK27 hf H locs ls (lv_sub hl [0, 1, 2] rfl) hP hS
def fX11_findEchoes_s224 (n : Nat) (K27 : Int32 → Int32 → St → Option (Unit × St))  (v1 : Int32) (v2 : Int32) (st : St) : Option (Unit × St) := if inb v2 31 = true then (fX11_findEchoes_s234 n K27 v1 v2 (setJ st 159 v2.toNatClampNeg (st.2 130 45))) else none
set_option maxHeartbeats 4000000 in
set_option maxRecDepth 100000 in
theorem wX11_findEchoes_s224 (C : Cx p s m args meth c cX11_findEchoes 5 wsL_law RX11 none D G ad) (n : Nat) (K27 : Int32 → Int32 → St → Option (Unit × St))  (v1 : Int32) (v2 : Int32)   (st : St) (res : (Unit × St)) (hK27 : ∀ (v1 : Int32) (v2 : Int32) (st : St), K27 v1 v2 st = some res → At p l e (rmK 3) s m args below meth c D G ad (MQV D G ad below args s res) 5 st [(0, .ref (ad 130)), (1, .int v1), (2, .int v2)] 27 []) (hf : fX11_findEchoes_s224 n K27  v1 v2 st = some res) : At p l e (rmK 3) s m args below meth c D G ad (MQV D G ad below args s res) 5 st [(0, .ref (ad 130)), (1, .int v1), (2, .int v2)] 224 [] := by
  obtain ⟨hx, hb, hml, hown, hts, hr, hlk, hK, had, hSt⟩ := id C
  intro H locs ls hl hP hS
  unfold fX11_findEchoes_s224 at hf
  refine lv_aload_n hx hb dX11_findEchoes_224 rfl (lv_at hl 0 rfl) ?_
  refine g_getR hx hb hts inlX11 hown hK hP 130 ct_130 rfl 48 (by decide) (hts _ wm_8_11) rfl dX11_findEchoes_225 ?_
  refine lv_iload_n hx hb dX11_findEchoes_228 rfl (lv_at hl 2 rfl) ?_
  refine lv_aload_n hx hb dX11_findEchoes_229 rfl (lv_at hl 0 rfl) ?_
  refine g_getJ hx hb hts inlX11 hown hK hP 130 ct_130 rfl 45 (by decide) (hts _ wm_36_23) rfl dX11_findEchoes_230 ?_
  obtain ⟨g1, hf⟩ := gd hf
  refine g_last hx hb hK had hP hS 159 ct_159 g1 dX11_findEchoes_233 (fun H locs hP hS => ?_)
  exact wX11_findEchoes_s234 C n K27 v1 v2 (setJ st 159 v2.toNatClampNeg (st.2 130 45)) res hK27 hf H locs ls (lv_sub hl [0, 1, 2] rfl) hP hS
def fX11_findEchoes_s210 (n : Nat) (K27 : Int32 → Int32 → St → Option (Unit × St))  (v1 : Int32) (v2 : Int32) (v3 : Int64) (st : St) : Option (Unit × St) := (fX11_adds n v3 1 (st.2 130 45) (st.2 130 46) st).bind (fun q => fX11_findEchoes_s224 n K27 v1 v2 q.2)
set_option maxHeartbeats 4000000 in
set_option maxRecDepth 100000 in
theorem wX11_findEchoes_s210 (C : Cx p s m args meth c cX11_findEchoes 5 wsL_law RX11 none D G ad) (n : Nat) (K27 : Int32 → Int32 → St → Option (Unit × St))  (v1 : Int32) (v2 : Int32) (v3 : Int64)   (st : St) (res : (Unit × St)) (hK27 : ∀ (v1 : Int32) (v2 : Int32) (st : St), K27 v1 v2 st = some res → At p l e (rmK 3) s m args below meth c D G ad (MQV D G ad below args s res) 5 st [(0, .ref (ad 130)), (1, .int v1), (2, .int v2)] 27 []) (hf : fX11_findEchoes_s210 n K27  v1 v2 v3 st = some res) : At p l e (rmK 3) s m args below meth c D G ad (MQV D G ad below args s res) 5 st [(0, .ref (ad 130)), (1, .int v1), (2, .int v2), (3, .long v3)] 210 [] := by
  obtain ⟨hx, hb, hml, hown, hts, hr, hlk, hK, had, hSt⟩ := id C
  intro H locs ls hl hP hS
  unfold fX11_findEchoes_s210 at hf
  refine lv_aload_n hx hb dX11_findEchoes_210 rfl (lv_at hl 0 rfl) ?_
  refine lv_lload_n hx hb dX11_findEchoes_211 rfl (lv_at hl 3 rfl) ?_
  refine lv_lconst (v := 1) hx hb dX11_findEchoes_212 (by decide) ?_
  refine lv_aload_n hx hb dX11_findEchoes_213 rfl (lv_at hl 0 rfl) ?_
  refine g_getJ hx hb hts inlX11 hown hK hP 130 ct_130 rfl 45 (by decide) (hts _ wm_36_23) rfl dX11_findEchoes_214 ?_
  refine lv_aload_n hx hb dX11_findEchoes_217 rfl (lv_at hl 0 rfl) ?_
  refine g_getJ hx hb hts inlX11 hown hK hP 130 ct_130 rfl 46 (by decide) (hts _ wm_37_0) rfl dX11_findEchoes_218 ?_
  obtain ⟨q, hq, hf⟩ := bd hf
  refine gcV_v (k := 2) (o := 130) (As := [.long v3, .long 1, .long (st.2 130 45), .long (st.2 130 46)]) (rest := []) hx hb hml hown hts hK hSt hP hS hl.1 (goodV wm_37_1 wm_37_2 wm_37_3 wm_1_5 wm_37_4) okX11_adds ct_130 rfl rfl (Nat.le_of_ble_eq_true rfl) (Nat.le_of_ble_eq_true rfl) rfl rfl (Nat.le_of_ble_eq_true rfl) dX11_findEchoes_221 (kX11_adds l D G ad had n  v3 1 (st.2 130 45) (st.2 130 46) st q hq) (fun H locs hP hS => ?_)
  exact wX11_findEchoes_s224 C n K27 v1 v2 q.2 res hK27 hf H locs ls (lv_sub hl [0, 1, 2] rfl) hP hS
def fX11_findEchoes_s190 (n : Nat) (K27 : Int32 → Int32 → St → Option (Unit × St))  (v1 : Int32) (v2 : Int32) (v3 : Int64) (st : St) : Option (Unit × St) := (fX11_multiplies n (st.2 130 42) (st.2 130 43) (st.2 130 45) (st.2 130 46) st).bind (fun q => fX11_findEchoes_s210 n K27 v1 v2 v3 q.2)
set_option maxHeartbeats 4000000 in
set_option maxRecDepth 100000 in
theorem wX11_findEchoes_s190 (C : Cx p s m args meth c cX11_findEchoes 5 wsL_law RX11 none D G ad) (n : Nat) (K27 : Int32 → Int32 → St → Option (Unit × St))  (v1 : Int32) (v2 : Int32) (v3 : Int64)   (st : St) (res : (Unit × St)) (hK27 : ∀ (v1 : Int32) (v2 : Int32) (st : St), K27 v1 v2 st = some res → At p l e (rmK 3) s m args below meth c D G ad (MQV D G ad below args s res) 5 st [(0, .ref (ad 130)), (1, .int v1), (2, .int v2)] 27 []) (hf : fX11_findEchoes_s190 n K27  v1 v2 v3 st = some res) : At p l e (rmK 3) s m args below meth c D G ad (MQV D G ad below args s res) 5 st [(0, .ref (ad 130)), (1, .int v1), (2, .int v2), (3, .long v3)] 190 [] := by
  obtain ⟨hx, hb, hml, hown, hts, hr, hlk, hK, had, hSt⟩ := id C
  intro H locs ls hl hP hS
  unfold fX11_findEchoes_s190 at hf
  refine lv_aload_n hx hb dX11_findEchoes_190 rfl (lv_at hl 0 rfl) ?_
  refine lv_aload_n hx hb dX11_findEchoes_191 rfl (lv_at hl 0 rfl) ?_
  refine g_getJ hx hb hts inlX11 hown hK hP 130 ct_130 rfl 42 (by decide) (hts _ wm_8_8) rfl dX11_findEchoes_192 ?_
  refine lv_aload_n hx hb dX11_findEchoes_195 rfl (lv_at hl 0 rfl) ?_
  refine g_getJ hx hb hts inlX11 hown hK hP 130 ct_130 rfl 43 (by decide) (hts _ wm_8_9) rfl dX11_findEchoes_196 ?_
  refine lv_aload_n hx hb dX11_findEchoes_199 rfl (lv_at hl 0 rfl) ?_
  refine g_getJ hx hb hts inlX11 hown hK hP 130 ct_130 rfl 45 (by decide) (hts _ wm_36_23) rfl dX11_findEchoes_200 ?_
  refine lv_aload_n hx hb dX11_findEchoes_203 rfl (lv_at hl 0 rfl) ?_
  refine g_getJ hx hb hts inlX11 hown hK hP 130 ct_130 rfl 46 (by decide) (hts _ wm_37_0) rfl dX11_findEchoes_204 ?_
  obtain ⟨q, hq, hf⟩ := bd hf
  refine gcV_v (k := 2) (o := 130) (As := [.long (st.2 130 42), .long (st.2 130 43), .long (st.2 130 45), .long (st.2 130 46)]) (rest := []) hx hb hml hown hts hK hSt hP hS hl.1 (goodV wm_37_9 wm_37_10 wm_37_11 wm_1_5 wm_37_12) okX11_multiplies ct_130 rfl rfl (Nat.le_of_ble_eq_true rfl) (Nat.le_of_ble_eq_true rfl) rfl rfl (Nat.le_of_ble_eq_true rfl) dX11_findEchoes_207 (kX11_multiplies l D G ad had n  (st.2 130 42) (st.2 130 43) (st.2 130 45) (st.2 130 46) st q hq) (fun H locs hP hS => ?_)
  exact wX11_findEchoes_s210 C n K27 v1 v2 v3 q.2 res hK27 hf H locs ls (lv_sub hl [0, 1, 2, 3] rfl) hP hS
def fX11_findEchoes_s169 (n : Nat) (K27 : Int32 → Int32 → St → Option (Unit × St))  (v1 : Int32) (v2 : Int32) (v3 : Int64) (st : St) : Option (Unit × St) := (fX11_adds n (st.2 130 45) (st.2 130 46) (-(st.2 130 52)) (st.2 130 53) st).bind (fun q => fX11_findEchoes_s190 n K27 v1 v2 v3 q.2)
set_option maxHeartbeats 4000000 in
set_option maxRecDepth 100000 in
theorem wX11_findEchoes_s169 (C : Cx p s m args meth c cX11_findEchoes 5 wsL_law RX11 none D G ad) (n : Nat) (K27 : Int32 → Int32 → St → Option (Unit × St))  (v1 : Int32) (v2 : Int32) (v3 : Int64)   (st : St) (res : (Unit × St)) (hK27 : ∀ (v1 : Int32) (v2 : Int32) (st : St), K27 v1 v2 st = some res → At p l e (rmK 3) s m args below meth c D G ad (MQV D G ad below args s res) 5 st [(0, .ref (ad 130)), (1, .int v1), (2, .int v2)] 27 []) (hf : fX11_findEchoes_s169 n K27  v1 v2 v3 st = some res) : At p l e (rmK 3) s m args below meth c D G ad (MQV D G ad below args s res) 5 st [(0, .ref (ad 130)), (1, .int v1), (2, .int v2), (3, .long v3)] 169 [] := by
  obtain ⟨hx, hb, hml, hown, hts, hr, hlk, hK, had, hSt⟩ := id C
  intro H locs ls hl hP hS
  unfold fX11_findEchoes_s169 at hf
  refine lv_aload_n hx hb dX11_findEchoes_169 rfl (lv_at hl 0 rfl) ?_
  refine lv_aload_n hx hb dX11_findEchoes_170 rfl (lv_at hl 0 rfl) ?_
  refine g_getJ hx hb hts inlX11 hown hK hP 130 ct_130 rfl 45 (by decide) (hts _ wm_36_23) rfl dX11_findEchoes_171 ?_
  refine lv_aload_n hx hb dX11_findEchoes_174 rfl (lv_at hl 0 rfl) ?_
  refine g_getJ hx hb hts inlX11 hown hK hP 130 ct_130 rfl 46 (by decide) (hts _ wm_37_0) rfl dX11_findEchoes_175 ?_
  refine lv_aload_n hx hb dX11_findEchoes_178 rfl (lv_at hl 0 rfl) ?_
  refine g_getJ hx hb hts inlX11 hown hK hP 130 ct_130 rfl 52 (by decide) (hts _ wm_36_21) rfl dX11_findEchoes_179 ?_
  refine lv_lneg hx hb dX11_findEchoes_182 ?_
  refine lv_aload_n hx hb dX11_findEchoes_183 rfl (lv_at hl 0 rfl) ?_
  refine g_getJ hx hb hts inlX11 hown hK hP 130 ct_130 rfl 53 (by decide) (hts _ wm_36_22) rfl dX11_findEchoes_184 ?_
  obtain ⟨q, hq, hf⟩ := bd hf
  refine gcV_v (k := 2) (o := 130) (As := [.long (st.2 130 45), .long (st.2 130 46), .long (-(st.2 130 52)), .long (st.2 130 53)]) (rest := []) hx hb hml hown hts hK hSt hP hS hl.1 (goodV wm_37_1 wm_37_2 wm_37_3 wm_1_5 wm_37_4) okX11_adds ct_130 rfl rfl (Nat.le_of_ble_eq_true rfl) (Nat.le_of_ble_eq_true rfl) rfl rfl (Nat.le_of_ble_eq_true rfl) dX11_findEchoes_187 (kX11_adds l D G ad had n  (st.2 130 45) (st.2 130 46) (-(st.2 130 52)) (st.2 130 53) st q hq) (fun H locs hP hS => ?_)
  exact wX11_findEchoes_s190 C n K27 v1 v2 v3 q.2 res hK27 hf H locs ls (lv_sub hl [0, 1, 2, 3] rfl) hP hS
def fX11_findEchoes_s151 (n : Nat) (K27 : Int32 → Int32 → St → Option (Unit × St))  (v1 : Int32) (v2 : Int32) (v3 : Int64) (st : St) : Option (Unit × St) := (fX11_multiplies n ((st.1 130 44).toInt64) 1 (st.2 130 50) (st.2 130 51) st).bind (fun q => fX11_findEchoes_s169 n K27 v1 v2 v3 q.2)
set_option maxHeartbeats 4000000 in
set_option maxRecDepth 100000 in
theorem wX11_findEchoes_s151 (C : Cx p s m args meth c cX11_findEchoes 5 wsL_law RX11 none D G ad) (n : Nat) (K27 : Int32 → Int32 → St → Option (Unit × St))  (v1 : Int32) (v2 : Int32) (v3 : Int64)   (st : St) (res : (Unit × St)) (hK27 : ∀ (v1 : Int32) (v2 : Int32) (st : St), K27 v1 v2 st = some res → At p l e (rmK 3) s m args below meth c D G ad (MQV D G ad below args s res) 5 st [(0, .ref (ad 130)), (1, .int v1), (2, .int v2)] 27 []) (hf : fX11_findEchoes_s151 n K27  v1 v2 v3 st = some res) : At p l e (rmK 3) s m args below meth c D G ad (MQV D G ad below args s res) 5 st [(0, .ref (ad 130)), (1, .int v1), (2, .int v2), (3, .long v3)] 151 [] := by
  obtain ⟨hx, hb, hml, hown, hts, hr, hlk, hK, had, hSt⟩ := id C
  intro H locs ls hl hP hS
  unfold fX11_findEchoes_s151 at hf
  refine lv_aload_n hx hb dX11_findEchoes_151 rfl (lv_at hl 0 rfl) ?_
  refine lv_aload_n hx hb dX11_findEchoes_152 rfl (lv_at hl 0 rfl) ?_
  refine g_getI hx hb hts inlX11 hown hK hP 130 ct_130 rfl 44 (by decide) (hts _ wm_8_10) rfl dX11_findEchoes_153 ?_
  refine lv_i2l hx hb dX11_findEchoes_156 rfl ?_
  refine lv_lconst (v := 1) hx hb dX11_findEchoes_157 (by decide) ?_
  refine lv_aload_n hx hb dX11_findEchoes_158 rfl (lv_at hl 0 rfl) ?_
  refine g_getJ hx hb hts inlX11 hown hK hP 130 ct_130 rfl 50 (by decide) (hts _ wm_36_19) rfl dX11_findEchoes_159 ?_
  refine lv_aload_n hx hb dX11_findEchoes_162 rfl (lv_at hl 0 rfl) ?_
  refine g_getJ hx hb hts inlX11 hown hK hP 130 ct_130 rfl 51 (by decide) (hts _ wm_36_20) rfl dX11_findEchoes_163 ?_
  obtain ⟨q, hq, hf⟩ := bd hf
  refine gcV_v (k := 2) (o := 130) (As := [.long ((st.1 130 44).toInt64), .long 1, .long (st.2 130 50), .long (st.2 130 51)]) (rest := []) hx hb hml hown hts hK hSt hP hS hl.1 (goodV wm_37_9 wm_37_10 wm_37_11 wm_1_5 wm_37_12) okX11_multiplies ct_130 rfl rfl (Nat.le_of_ble_eq_true rfl) (Nat.le_of_ble_eq_true rfl) rfl rfl (Nat.le_of_ble_eq_true rfl) dX11_findEchoes_166 (kX11_multiplies l D G ad had n  ((st.1 130 44).toInt64) 1 (st.2 130 50) (st.2 130 51) st q hq) (fun H locs hP hS => ?_)
  exact wX11_findEchoes_s169 C n K27 v1 v2 v3 q.2 res hK27 hf H locs ls (lv_sub hl [0, 1, 2, 3] rfl) hP hS
def fX11_findEchoes_s143 (n : Nat) (K27 : Int32 → Int32 → St → Option (Unit × St))  (v1 : Int32) (v2 : Int32) (v3 : Int64) (st : St) : Option (Unit × St) := fX11_findEchoes_s151 n K27 v1 v2 v3 (setJ st 130 53 (st.2 130 46))
set_option maxHeartbeats 4000000 in
set_option maxRecDepth 100000 in
theorem wX11_findEchoes_s143 (C : Cx p s m args meth c cX11_findEchoes 5 wsL_law RX11 none D G ad) (n : Nat) (K27 : Int32 → Int32 → St → Option (Unit × St))  (v1 : Int32) (v2 : Int32) (v3 : Int64)   (st : St) (res : (Unit × St)) (hK27 : ∀ (v1 : Int32) (v2 : Int32) (st : St), K27 v1 v2 st = some res → At p l e (rmK 3) s m args below meth c D G ad (MQV D G ad below args s res) 5 st [(0, .ref (ad 130)), (1, .int v1), (2, .int v2)] 27 []) (hf : fX11_findEchoes_s143 n K27  v1 v2 v3 st = some res) : At p l e (rmK 3) s m args below meth c D G ad (MQV D G ad below args s res) 5 st [(0, .ref (ad 130)), (1, .int v1), (2, .int v2), (3, .long v3)] 143 [] := by
  obtain ⟨hx, hb, hml, hown, hts, hr, hlk, hK, had, hSt⟩ := id C
  intro H locs ls hl hP hS
  unfold fX11_findEchoes_s143 at hf
  refine lv_aload_n hx hb dX11_findEchoes_143 rfl (lv_at hl 0 rfl) ?_
  refine lv_aload_n hx hb dX11_findEchoes_144 rfl (lv_at hl 0 rfl) ?_
  refine g_getJ hx hb hts inlX11 hown hK hP 130 ct_130 rfl 46 (by decide) (hts _ wm_37_0) rfl dX11_findEchoes_145 ?_
  refine g_putJ hx hb hts inlX11 tyX11_ok nmX11 hown hK had hP hS 130 ct_130 rfl 53 (by decide) (hts _ wm_36_22) rfl rfl rfl dX11_findEchoes_148 (fun H locs hP hS => ?_)
  exact wX11_findEchoes_s151 C n K27 v1 v2 v3 (setJ st 130 53 (st.2 130 46)) res hK27 hf H locs ls (lv_sub hl [0, 1, 2, 3] rfl) hP hS
def fX11_findEchoes_s135 (n : Nat) (K27 : Int32 → Int32 → St → Option (Unit × St))  (v1 : Int32) (v2 : Int32) (v3 : Int64) (st : St) : Option (Unit × St) := fX11_findEchoes_s143 n K27 v1 v2 v3 (setJ st 130 52 (st.2 130 45))
set_option maxHeartbeats 4000000 in
set_option maxRecDepth 100000 in
theorem wX11_findEchoes_s135 (C : Cx p s m args meth c cX11_findEchoes 5 wsL_law RX11 none D G ad) (n : Nat) (K27 : Int32 → Int32 → St → Option (Unit × St))  (v1 : Int32) (v2 : Int32) (v3 : Int64)   (st : St) (res : (Unit × St)) (hK27 : ∀ (v1 : Int32) (v2 : Int32) (st : St), K27 v1 v2 st = some res → At p l e (rmK 3) s m args below meth c D G ad (MQV D G ad below args s res) 5 st [(0, .ref (ad 130)), (1, .int v1), (2, .int v2)] 27 []) (hf : fX11_findEchoes_s135 n K27  v1 v2 v3 st = some res) : At p l e (rmK 3) s m args below meth c D G ad (MQV D G ad below args s res) 5 st [(0, .ref (ad 130)), (1, .int v1), (2, .int v2), (3, .long v3)] 135 [] := by
  obtain ⟨hx, hb, hml, hown, hts, hr, hlk, hK, had, hSt⟩ := id C
  intro H locs ls hl hP hS
  unfold fX11_findEchoes_s135 at hf
  refine lv_aload_n hx hb dX11_findEchoes_135 rfl (lv_at hl 0 rfl) ?_
  refine lv_aload_n hx hb dX11_findEchoes_136 rfl (lv_at hl 0 rfl) ?_
  refine g_getJ hx hb hts inlX11 hown hK hP 130 ct_130 rfl 45 (by decide) (hts _ wm_36_23) rfl dX11_findEchoes_137 ?_
  refine g_putJ hx hb hts inlX11 tyX11_ok nmX11 hown hK had hP hS 130 ct_130 rfl 52 (by decide) (hts _ wm_36_21) rfl rfl rfl dX11_findEchoes_140 (fun H locs hP hS => ?_)
  exact wX11_findEchoes_s143 C n K27 v1 v2 v3 (setJ st 130 52 (st.2 130 45)) res hK27 hf H locs ls (lv_sub hl [0, 1, 2, 3] rfl) hP hS
def fX11_findEchoes_s120 (n : Nat) (K27 : Int32 → Int32 → St → Option (Unit × St))  (v1 : Int32) (v2 : Int32) (v3 : Int64) (st : St) : Option (Unit × St) := (fX11_adds n (st.2 130 52) (st.2 130 53) (-v3) 1 st).bind (fun q => fX11_findEchoes_s135 n K27 v1 v2 v3 q.2)
set_option maxHeartbeats 4000000 in
set_option maxRecDepth 100000 in
theorem wX11_findEchoes_s120 (C : Cx p s m args meth c cX11_findEchoes 5 wsL_law RX11 none D G ad) (n : Nat) (K27 : Int32 → Int32 → St → Option (Unit × St))  (v1 : Int32) (v2 : Int32) (v3 : Int64)   (st : St) (res : (Unit × St)) (hK27 : ∀ (v1 : Int32) (v2 : Int32) (st : St), K27 v1 v2 st = some res → At p l e (rmK 3) s m args below meth c D G ad (MQV D G ad below args s res) 5 st [(0, .ref (ad 130)), (1, .int v1), (2, .int v2)] 27 []) (hf : fX11_findEchoes_s120 n K27  v1 v2 v3 st = some res) : At p l e (rmK 3) s m args below meth c D G ad (MQV D G ad below args s res) 5 st [(0, .ref (ad 130)), (1, .int v1), (2, .int v2), (3, .long v3)] 120 [] := by
  obtain ⟨hx, hb, hml, hown, hts, hr, hlk, hK, had, hSt⟩ := id C
  intro H locs ls hl hP hS
  unfold fX11_findEchoes_s120 at hf
  refine lv_aload_n hx hb dX11_findEchoes_120 rfl (lv_at hl 0 rfl) ?_
  refine lv_aload_n hx hb dX11_findEchoes_121 rfl (lv_at hl 0 rfl) ?_
  refine g_getJ hx hb hts inlX11 hown hK hP 130 ct_130 rfl 52 (by decide) (hts _ wm_36_21) rfl dX11_findEchoes_122 ?_
  refine lv_aload_n hx hb dX11_findEchoes_125 rfl (lv_at hl 0 rfl) ?_
  refine g_getJ hx hb hts inlX11 hown hK hP 130 ct_130 rfl 53 (by decide) (hts _ wm_36_22) rfl dX11_findEchoes_126 ?_
  refine lv_lload_n hx hb dX11_findEchoes_129 rfl (lv_at hl 3 rfl) ?_
  refine lv_lneg hx hb dX11_findEchoes_130 ?_
  refine lv_lconst (v := 1) hx hb dX11_findEchoes_131 (by decide) ?_
  obtain ⟨q, hq, hf⟩ := bd hf
  refine gcV_v (k := 2) (o := 130) (As := [.long (st.2 130 52), .long (st.2 130 53), .long (-v3), .long 1]) (rest := []) hx hb hml hown hts hK hSt hP hS hl.1 (goodV wm_37_1 wm_37_2 wm_37_3 wm_1_5 wm_37_4) okX11_adds ct_130 rfl rfl (Nat.le_of_ble_eq_true rfl) (Nat.le_of_ble_eq_true rfl) rfl rfl (Nat.le_of_ble_eq_true rfl) dX11_findEchoes_132 (kX11_adds l D G ad had n  (st.2 130 52) (st.2 130 53) (-v3) 1 st q hq) (fun H locs hP hS => ?_)
  exact wX11_findEchoes_s135 C n K27 v1 v2 v3 q.2 res hK27 hf H locs ls (lv_sub hl [0, 1, 2, 3] rfl) hP hS
def fX11_findEchoes_s112 (n : Nat) (K27 : Int32 → Int32 → St → Option (Unit × St))  (v1 : Int32) (v2 : Int32) (v3 : Int64) (st : St) : Option (Unit × St) := fX11_findEchoes_s120 n K27 v1 v2 v3 (setJ st 130 51 (st.2 130 46))
set_option maxHeartbeats 4000000 in
set_option maxRecDepth 100000 in
theorem wX11_findEchoes_s112 (C : Cx p s m args meth c cX11_findEchoes 5 wsL_law RX11 none D G ad) (n : Nat) (K27 : Int32 → Int32 → St → Option (Unit × St))  (v1 : Int32) (v2 : Int32) (v3 : Int64)   (st : St) (res : (Unit × St)) (hK27 : ∀ (v1 : Int32) (v2 : Int32) (st : St), K27 v1 v2 st = some res → At p l e (rmK 3) s m args below meth c D G ad (MQV D G ad below args s res) 5 st [(0, .ref (ad 130)), (1, .int v1), (2, .int v2)] 27 []) (hf : fX11_findEchoes_s112 n K27  v1 v2 v3 st = some res) : At p l e (rmK 3) s m args below meth c D G ad (MQV D G ad below args s res) 5 st [(0, .ref (ad 130)), (1, .int v1), (2, .int v2), (3, .long v3)] 112 [] := by
  obtain ⟨hx, hb, hml, hown, hts, hr, hlk, hK, had, hSt⟩ := id C
  intro H locs ls hl hP hS
  unfold fX11_findEchoes_s112 at hf
  refine lv_aload_n hx hb dX11_findEchoes_112 rfl (lv_at hl 0 rfl) ?_
  refine lv_aload_n hx hb dX11_findEchoes_113 rfl (lv_at hl 0 rfl) ?_
  refine g_getJ hx hb hts inlX11 hown hK hP 130 ct_130 rfl 46 (by decide) (hts _ wm_37_0) rfl dX11_findEchoes_114 ?_
  refine g_putJ hx hb hts inlX11 tyX11_ok nmX11 hown hK had hP hS 130 ct_130 rfl 51 (by decide) (hts _ wm_36_20) rfl rfl rfl dX11_findEchoes_117 (fun H locs hP hS => ?_)
  exact wX11_findEchoes_s120 C n K27 v1 v2 v3 (setJ st 130 51 (st.2 130 46)) res hK27 hf H locs ls (lv_sub hl [0, 1, 2, 3] rfl) hP hS
def fX11_findEchoes_s104 (n : Nat) (K27 : Int32 → Int32 → St → Option (Unit × St))  (v1 : Int32) (v2 : Int32) (v3 : Int64) (st : St) : Option (Unit × St) := fX11_findEchoes_s112 n K27 v1 v2 v3 (setJ st 130 50 (st.2 130 45))
set_option maxHeartbeats 4000000 in
set_option maxRecDepth 100000 in
theorem wX11_findEchoes_s104 (C : Cx p s m args meth c cX11_findEchoes 5 wsL_law RX11 none D G ad) (n : Nat) (K27 : Int32 → Int32 → St → Option (Unit × St))  (v1 : Int32) (v2 : Int32) (v3 : Int64)   (st : St) (res : (Unit × St)) (hK27 : ∀ (v1 : Int32) (v2 : Int32) (st : St), K27 v1 v2 st = some res → At p l e (rmK 3) s m args below meth c D G ad (MQV D G ad below args s res) 5 st [(0, .ref (ad 130)), (1, .int v1), (2, .int v2)] 27 []) (hf : fX11_findEchoes_s104 n K27  v1 v2 v3 st = some res) : At p l e (rmK 3) s m args below meth c D G ad (MQV D G ad below args s res) 5 st [(0, .ref (ad 130)), (1, .int v1), (2, .int v2), (3, .long v3)] 104 [] := by
  obtain ⟨hx, hb, hml, hown, hts, hr, hlk, hK, had, hSt⟩ := id C
  intro H locs ls hl hP hS
  unfold fX11_findEchoes_s104 at hf
  refine lv_aload_n hx hb dX11_findEchoes_104 rfl (lv_at hl 0 rfl) ?_
  refine lv_aload_n hx hb dX11_findEchoes_105 rfl (lv_at hl 0 rfl) ?_
  refine g_getJ hx hb hts inlX11 hown hK hP 130 ct_130 rfl 45 (by decide) (hts _ wm_36_23) rfl dX11_findEchoes_106 ?_
  refine g_putJ hx hb hts inlX11 tyX11_ok nmX11 hown hK had hP hS 130 ct_130 rfl 50 (by decide) (hts _ wm_36_19) rfl rfl rfl dX11_findEchoes_109 (fun H locs hP hS => ?_)
  exact wX11_findEchoes_s112 C n K27 v1 v2 v3 (setJ st 130 50 (st.2 130 45)) res hK27 hf H locs ls (lv_sub hl [0, 1, 2, 3] rfl) hP hS
def fX11_findEchoes_s84 (n : Nat) (K27 : Int32 → Int32 → St → Option (Unit × St))  (v1 : Int32) (v2 : Int32) (v3 : Int64) (st : St) : Option (Unit × St) := (fX11_adds n (st.2 130 50) (st.2 130 51) (st.2 130 45) (st.2 130 46) st).bind (fun q => fX11_findEchoes_s104 n K27 v1 v2 v3 q.2)
set_option maxHeartbeats 4000000 in
set_option maxRecDepth 100000 in
theorem wX11_findEchoes_s84 (C : Cx p s m args meth c cX11_findEchoes 5 wsL_law RX11 none D G ad) (n : Nat) (K27 : Int32 → Int32 → St → Option (Unit × St))  (v1 : Int32) (v2 : Int32) (v3 : Int64)   (st : St) (res : (Unit × St)) (hK27 : ∀ (v1 : Int32) (v2 : Int32) (st : St), K27 v1 v2 st = some res → At p l e (rmK 3) s m args below meth c D G ad (MQV D G ad below args s res) 5 st [(0, .ref (ad 130)), (1, .int v1), (2, .int v2)] 27 []) (hf : fX11_findEchoes_s84 n K27  v1 v2 v3 st = some res) : At p l e (rmK 3) s m args below meth c D G ad (MQV D G ad below args s res) 5 st [(0, .ref (ad 130)), (1, .int v1), (2, .int v2), (3, .long v3)] 84 [] := by
  obtain ⟨hx, hb, hml, hown, hts, hr, hlk, hK, had, hSt⟩ := id C
  intro H locs ls hl hP hS
  unfold fX11_findEchoes_s84 at hf
  refine lv_aload_n hx hb dX11_findEchoes_84 rfl (lv_at hl 0 rfl) ?_
  refine lv_aload_n hx hb dX11_findEchoes_85 rfl (lv_at hl 0 rfl) ?_
  refine g_getJ hx hb hts inlX11 hown hK hP 130 ct_130 rfl 50 (by decide) (hts _ wm_36_19) rfl dX11_findEchoes_86 ?_
  refine lv_aload_n hx hb dX11_findEchoes_89 rfl (lv_at hl 0 rfl) ?_
  refine g_getJ hx hb hts inlX11 hown hK hP 130 ct_130 rfl 51 (by decide) (hts _ wm_36_20) rfl dX11_findEchoes_90 ?_
  refine lv_aload_n hx hb dX11_findEchoes_93 rfl (lv_at hl 0 rfl) ?_
  refine g_getJ hx hb hts inlX11 hown hK hP 130 ct_130 rfl 45 (by decide) (hts _ wm_36_23) rfl dX11_findEchoes_94 ?_
  refine lv_aload_n hx hb dX11_findEchoes_97 rfl (lv_at hl 0 rfl) ?_
  refine g_getJ hx hb hts inlX11 hown hK hP 130 ct_130 rfl 46 (by decide) (hts _ wm_37_0) rfl dX11_findEchoes_98 ?_
  obtain ⟨q, hq, hf⟩ := bd hf
  refine gcV_v (k := 2) (o := 130) (As := [.long (st.2 130 50), .long (st.2 130 51), .long (st.2 130 45), .long (st.2 130 46)]) (rest := []) hx hb hml hown hts hK hSt hP hS hl.1 (goodV wm_37_1 wm_37_2 wm_37_3 wm_1_5 wm_37_4) okX11_adds ct_130 rfl rfl (Nat.le_of_ble_eq_true rfl) (Nat.le_of_ble_eq_true rfl) rfl rfl (Nat.le_of_ble_eq_true rfl) dX11_findEchoes_101 (kX11_adds l D G ad had n  (st.2 130 50) (st.2 130 51) (st.2 130 45) (st.2 130 46) st q hq) (fun H locs hP hS => ?_)
  exact wX11_findEchoes_s104 C n K27 v1 v2 v3 q.2 res hK27 hf H locs ls (lv_sub hl [0, 1, 2, 3] rfl) hP hS
def fX11_findEchoes_s64 (n : Nat) (K27 : Int32 → Int32 → St → Option (Unit × St))  (v1 : Int32) (v2 : Int32) (v3 : Int64) (st : St) : Option (Unit × St) := (fX11_multiplies n (st.2 130 40) (st.2 130 41) (st.2 130 45) (st.2 130 46) st).bind (fun q => fX11_findEchoes_s84 n K27 v1 v2 v3 q.2)
set_option maxHeartbeats 4000000 in
set_option maxRecDepth 100000 in
theorem wX11_findEchoes_s64 (C : Cx p s m args meth c cX11_findEchoes 5 wsL_law RX11 none D G ad) (n : Nat) (K27 : Int32 → Int32 → St → Option (Unit × St))  (v1 : Int32) (v2 : Int32) (v3 : Int64)   (st : St) (res : (Unit × St)) (hK27 : ∀ (v1 : Int32) (v2 : Int32) (st : St), K27 v1 v2 st = some res → At p l e (rmK 3) s m args below meth c D G ad (MQV D G ad below args s res) 5 st [(0, .ref (ad 130)), (1, .int v1), (2, .int v2)] 27 []) (hf : fX11_findEchoes_s64 n K27  v1 v2 v3 st = some res) : At p l e (rmK 3) s m args below meth c D G ad (MQV D G ad below args s res) 5 st [(0, .ref (ad 130)), (1, .int v1), (2, .int v2), (3, .long v3)] 64 [] := by
  obtain ⟨hx, hb, hml, hown, hts, hr, hlk, hK, had, hSt⟩ := id C
  intro H locs ls hl hP hS
  unfold fX11_findEchoes_s64 at hf
  refine lv_aload_n hx hb dX11_findEchoes_64 rfl (lv_at hl 0 rfl) ?_
  refine lv_aload_n hx hb dX11_findEchoes_65 rfl (lv_at hl 0 rfl) ?_
  refine g_getJ hx hb hts inlX11 hown hK hP 130 ct_130 rfl 40 (by decide) (hts _ wm_8_6) rfl dX11_findEchoes_66 ?_
  refine lv_aload_n hx hb dX11_findEchoes_69 rfl (lv_at hl 0 rfl) ?_
  refine g_getJ hx hb hts inlX11 hown hK hP 130 ct_130 rfl 41 (by decide) (hts _ wm_8_7) rfl dX11_findEchoes_70 ?_
  refine lv_aload_n hx hb dX11_findEchoes_73 rfl (lv_at hl 0 rfl) ?_
  refine g_getJ hx hb hts inlX11 hown hK hP 130 ct_130 rfl 45 (by decide) (hts _ wm_36_23) rfl dX11_findEchoes_74 ?_
  refine lv_aload_n hx hb dX11_findEchoes_77 rfl (lv_at hl 0 rfl) ?_
  refine g_getJ hx hb hts inlX11 hown hK hP 130 ct_130 rfl 46 (by decide) (hts _ wm_37_0) rfl dX11_findEchoes_78 ?_
  obtain ⟨q, hq, hf⟩ := bd hf
  refine gcV_v (k := 2) (o := 130) (As := [.long (st.2 130 40), .long (st.2 130 41), .long (st.2 130 45), .long (st.2 130 46)]) (rest := []) hx hb hml hown hts hK hSt hP hS hl.1 (goodV wm_37_9 wm_37_10 wm_37_11 wm_1_5 wm_37_12) okX11_multiplies ct_130 rfl rfl (Nat.le_of_ble_eq_true rfl) (Nat.le_of_ble_eq_true rfl) rfl rfl (Nat.le_of_ble_eq_true rfl) dX11_findEchoes_81 (kX11_multiplies l D G ad had n  (st.2 130 40) (st.2 130 41) (st.2 130 45) (st.2 130 46) st q hq) (fun H locs hP hS => ?_)
  exact wX11_findEchoes_s84 C n K27 v1 v2 v3 q.2 res hK27 hf H locs ls (lv_sub hl [0, 1, 2, 3] rfl) hP hS
def fX11_findEchoes_s48 (n : Nat) (K27 : Int32 → Int32 → St → Option (Unit × St))  (v1 : Int32) (v2 : Int32) (k0 : Int64) (st : St) : Option (Unit × St) := (fX11_adds n k0 1 (-(st.2 130 50)) (st.2 130 51) st).bind (fun q => fX11_findEchoes_s64 n K27 v1 v2 k0 q.2)
set_option maxHeartbeats 4000000 in
set_option maxRecDepth 100000 in
theorem wX11_findEchoes_s48 (C : Cx p s m args meth c cX11_findEchoes 5 wsL_law RX11 none D G ad) (n : Nat) (K27 : Int32 → Int32 → St → Option (Unit × St))  (v1 : Int32) (v2 : Int32) (k0 : Int64)   (st : St) (res : (Unit × St)) (hK27 : ∀ (v1 : Int32) (v2 : Int32) (st : St), K27 v1 v2 st = some res → At p l e (rmK 3) s m args below meth c D G ad (MQV D G ad below args s res) 5 st [(0, .ref (ad 130)), (1, .int v1), (2, .int v2)] 27 []) (hf : fX11_findEchoes_s48 n K27  v1 v2 k0 st = some res) : At p l e (rmK 3) s m args below meth c D G ad (MQV D G ad below args s res) 5 st [(0, .ref (ad 130)), (1, .int v1), (2, .int v2)] 48 [.long k0] := by
  obtain ⟨hx, hb, hml, hown, hts, hr, hlk, hK, had, hSt⟩ := id C
  intro H locs ls hl hP hS
  unfold fX11_findEchoes_s48 at hf
  refine lv_lstore_n (lv' := [(3, .long k0), (0, .ref (ad 130)), (1, .int v1), (2, .int v2)]) hx hb dX11_findEchoes_48 rfl hl (by decide) rfl (fun ls hl => ?_)
  refine lv_aload_n hx hb dX11_findEchoes_49 rfl (lv_at hl 1 rfl) ?_
  refine lv_lload_n hx hb dX11_findEchoes_50 rfl (lv_at hl 0 rfl) ?_
  refine lv_lconst (v := 1) hx hb dX11_findEchoes_51 (by decide) ?_
  refine lv_aload_n hx hb dX11_findEchoes_52 rfl (lv_at hl 1 rfl) ?_
  refine g_getJ hx hb hts inlX11 hown hK hP 130 ct_130 rfl 50 (by decide) (hts _ wm_36_19) rfl dX11_findEchoes_53 ?_
  refine lv_lneg hx hb dX11_findEchoes_56 ?_
  refine lv_aload_n hx hb dX11_findEchoes_57 rfl (lv_at hl 1 rfl) ?_
  refine g_getJ hx hb hts inlX11 hown hK hP 130 ct_130 rfl 51 (by decide) (hts _ wm_36_20) rfl dX11_findEchoes_58 ?_
  obtain ⟨q, hq, hf⟩ := bd hf
  refine gcV_v (k := 2) (o := 130) (As := [.long k0, .long 1, .long (-(st.2 130 50)), .long (st.2 130 51)]) (rest := []) hx hb hml hown hts hK hSt hP hS hl.1 (goodV wm_37_1 wm_37_2 wm_37_3 wm_1_5 wm_37_4) okX11_adds ct_130 rfl rfl (Nat.le_of_ble_eq_true rfl) (Nat.le_of_ble_eq_true rfl) rfl rfl (Nat.le_of_ble_eq_true rfl) dX11_findEchoes_61 (kX11_adds l D G ad had n  k0 1 (-(st.2 130 50)) (st.2 130 51) st q hq) (fun H locs hP hS => ?_)
  exact wX11_findEchoes_s64 C n K27 v1 v2 k0 q.2 res hK27 hf H locs ls (lv_sub hl [1, 2, 3, 0] rfl) hP hS
def fX11_findEchoes_s47 (n : Nat) (K27 : Int32 → Int32 → St → Option (Unit × St))  (v1 : Int32) (v2 : Int32) (st : St) : Option (Unit × St) := fX11_findEchoes_s48 n K27 v1 v2 0 st
set_option maxHeartbeats 4000000 in
set_option maxRecDepth 100000 in
theorem wX11_findEchoes_s47 (C : Cx p s m args meth c cX11_findEchoes 5 wsL_law RX11 none D G ad) (n : Nat) (K27 : Int32 → Int32 → St → Option (Unit × St))  (v1 : Int32) (v2 : Int32)   (st : St) (res : (Unit × St)) (hK27 : ∀ (v1 : Int32) (v2 : Int32) (st : St), K27 v1 v2 st = some res → At p l e (rmK 3) s m args below meth c D G ad (MQV D G ad below args s res) 5 st [(0, .ref (ad 130)), (1, .int v1), (2, .int v2)] 27 []) (hf : fX11_findEchoes_s47 n K27  v1 v2 st = some res) : At p l e (rmK 3) s m args below meth c D G ad (MQV D G ad below args s res) 5 st [(0, .ref (ad 130)), (1, .int v1), (2, .int v2)] 47 [] := by
  obtain ⟨hx, hb, hml, hown, hts, hr, hlk, hK, had, hSt⟩ := id C
  intro H locs ls hl hP hS
  unfold fX11_findEchoes_s47 at hf
  refine lv_lconst (v := 0) hx hb dX11_findEchoes_47 (by decide) ?_
  exact wX11_findEchoes_s48 C n K27 v1 v2 0 st res hK27 hf H locs ls (lv_sub hl [0, 1, 2] rfl) hP hS
def fX11_findEchoes_s43 (n : Nat) (K27 : Int32 → Int32 → St → Option (Unit × St))  (v1 : Int32) (v2 : Int32) (st : St) : Option (Unit × St) := fX11_findEchoes_s48 n K27 v1 v2 1 st
set_option maxHeartbeats 4000000 in
set_option maxRecDepth 100000 in
theorem wX11_findEchoes_s43 (C : Cx p s m args meth c cX11_findEchoes 5 wsL_law RX11 none D G ad) (n : Nat) (K27 : Int32 → Int32 → St → Option (Unit × St))  (v1 : Int32) (v2 : Int32)   (st : St) (res : (Unit × St)) (hK27 : ∀ (v1 : Int32) (v2 : Int32) (st : St), K27 v1 v2 st = some res → At p l e (rmK 3) s m args below meth c D G ad (MQV D G ad below args s res) 5 st [(0, .ref (ad 130)), (1, .int v1), (2, .int v2)] 27 []) (hf : fX11_findEchoes_s43 n K27  v1 v2 st = some res) : At p l e (rmK 3) s m args below meth c D G ad (MQV D G ad below args s res) 5 st [(0, .ref (ad 130)), (1, .int v1), (2, .int v2)] 43 [] := by
  obtain ⟨hx, hb, hml, hown, hts, hr, hlk, hK, had, hSt⟩ := id C
  intro H locs ls hl hP hS
  unfold fX11_findEchoes_s43 at hf
  refine lv_lconst (v := 1) hx hb dX11_findEchoes_43 (by decide) ?_
  refine lv_goto (tgt := 48) hx hb dX11_findEchoes_44 (by decide) ?_
  exact wX11_findEchoes_s48 C n K27 v1 v2 1 st res hK27 hf H locs ls (lv_sub hl [0, 1, 2] rfl) hP hS
def fX11_findEchoes_s39 (n : Nat) (K27 : Int32 → Int32 → St → Option (Unit × St))  (v1 : Int32) (v2 : Int32) (st : St) : Option (Unit × St) := if v2 = 0 then fX11_findEchoes_s43 n K27 v1 v2 st else fX11_findEchoes_s47 n K27 v1 v2 st
set_option maxHeartbeats 4000000 in
set_option maxRecDepth 100000 in
theorem wX11_findEchoes_s39 (C : Cx p s m args meth c cX11_findEchoes 5 wsL_law RX11 none D G ad) (n : Nat) (K27 : Int32 → Int32 → St → Option (Unit × St))  (v1 : Int32) (v2 : Int32)   (st : St) (res : (Unit × St)) (hK27 : ∀ (v1 : Int32) (v2 : Int32) (st : St), K27 v1 v2 st = some res → At p l e (rmK 3) s m args below meth c D G ad (MQV D G ad below args s res) 5 st [(0, .ref (ad 130)), (1, .int v1), (2, .int v2)] 27 []) (hf : fX11_findEchoes_s39 n K27  v1 v2 st = some res) : At p l e (rmK 3) s m args below meth c D G ad (MQV D G ad below args s res) 5 st [(0, .ref (ad 130)), (1, .int v1), (2, .int v2)] 39 [] := by
  obtain ⟨hx, hb, hml, hown, hts, hr, hlk, hK, had, hSt⟩ := id C
  intro H locs ls hl hP hS
  unfold fX11_findEchoes_s39 at hf
  refine lv_iload_n hx hb dX11_findEchoes_39 rfl (lv_at hl 2 rfl) ?_
  refine lv_if_ne (tgt := 47) hx hb dX11_findEchoes_40 (by decide) (fun q => ?_) (fun q => ?_)
  · exact wX11_findEchoes_s47 C n K27 v1 v2 st res hK27 (ie hf q) H locs ls (lv_sub hl [0, 1, 2] rfl) hP hS
  · exact wX11_findEchoes_s43 C n K27 v1 v2 st res hK27 (it hf q) H locs ls (lv_sub hl [0, 1, 2] rfl) hP hS
def fX11_findEchoes_s32 (n : Nat) (K27 : Int32 → Int32 → St → Option (Unit × St))  (v1 : Int32) (v2 : Int32) (st : St) : Option (Unit × St) := if (st.1 130 47) = 0 then fX11_findEchoes_s39 n K27 v1 v2 st else fX11_findEchoes_s286 n st
set_option maxHeartbeats 4000000 in
set_option maxRecDepth 100000 in
theorem wX11_findEchoes_s32 (C : Cx p s m args meth c cX11_findEchoes 5 wsL_law RX11 none D G ad) (n : Nat) (K27 : Int32 → Int32 → St → Option (Unit × St))  (v1 : Int32) (v2 : Int32)   (st : St) (res : (Unit × St)) (hK27 : ∀ (v1 : Int32) (v2 : Int32) (st : St), K27 v1 v2 st = some res → At p l e (rmK 3) s m args below meth c D G ad (MQV D G ad below args s res) 5 st [(0, .ref (ad 130)), (1, .int v1), (2, .int v2)] 27 []) (hf : fX11_findEchoes_s32 n K27  v1 v2 st = some res) : At p l e (rmK 3) s m args below meth c D G ad (MQV D G ad below args s res) 5 st [(0, .ref (ad 130)), (1, .int v1), (2, .int v2)] 32 [] := by
  obtain ⟨hx, hb, hml, hown, hts, hr, hlk, hK, had, hSt⟩ := id C
  intro H locs ls hl hP hS
  unfold fX11_findEchoes_s32 at hf
  refine lv_aload_n hx hb dX11_findEchoes_32 rfl (lv_at hl 0 rfl) ?_
  refine g_getI hx hb hts inlX11 hown hK hP 130 ct_130 rfl 47 (by decide) (hts _ wm_36_14) rfl dX11_findEchoes_33 ?_
  refine lv_if_ne (tgt := 286) hx hb dX11_findEchoes_36 (by decide) (fun q => ?_) (fun q => ?_)
  · exact wX11_findEchoes_s286 C n st res (ie hf q) H locs ls (lv_sub hl [] rfl) hP hS
  · exact wX11_findEchoes_s39 C n K27 v1 v2 st res hK27 (it hf q) H locs ls (lv_sub hl [0, 1, 2] rfl) hP hS
def fX11_findEchoes_s27 (n : Nat) (K27 : Int32 → Int32 → St → Option (Unit × St))  (v1 : Int32) (v2 : Int32) (st : St) : Option (Unit × St) := if v1 < v2 then fX11_findEchoes_s286 n st else fX11_findEchoes_s32 n K27 v1 v2 st
set_option maxHeartbeats 4000000 in
set_option maxRecDepth 100000 in
theorem wX11_findEchoes_s27 (C : Cx p s m args meth c cX11_findEchoes 5 wsL_law RX11 none D G ad) (n : Nat) (K27 : Int32 → Int32 → St → Option (Unit × St))  (v1 : Int32) (v2 : Int32)   (st : St) (res : (Unit × St)) (hK27 : ∀ (v1 : Int32) (v2 : Int32) (st : St), K27 v1 v2 st = some res → At p l e (rmK 3) s m args below meth c D G ad (MQV D G ad below args s res) 5 st [(0, .ref (ad 130)), (1, .int v1), (2, .int v2)] 27 []) (hf : fX11_findEchoes_s27 n K27  v1 v2 st = some res) : At p l e (rmK 3) s m args below meth c D G ad (MQV D G ad below args s res) 5 st [(0, .ref (ad 130)), (1, .int v1), (2, .int v2)] 27 [] := by
  obtain ⟨hx, hb, hml, hown, hts, hr, hlk, hK, had, hSt⟩ := id C
  intro H locs ls hl hP hS
  unfold fX11_findEchoes_s27 at hf
  refine lv_iload_n hx hb dX11_findEchoes_27 rfl (lv_at hl 2 rfl) ?_
  refine lv_iload_n hx hb dX11_findEchoes_28 rfl (lv_at hl 1 rfl) ?_
  refine lv_icmp_gt (tgt := 286) hx hb dX11_findEchoes_29 (by decide) (fun q => ?_) (fun q => ?_)
  · exact wX11_findEchoes_s286 C n st res (it hf q) H locs ls (lv_sub hl [] rfl) hP hS
  · exact wX11_findEchoes_s32 C n K27 v1 v2 st res hK27 (ie hf q) H locs ls (lv_sub hl [0, 1, 2] rfl) hP hS
def fX11_findEchoes_L27 (n : Nat)   : Nat → Int32 → Int32 → St → Option (Unit × St)
  | 0, _, _, _ => none
  | k + 1, v1, v2, st => fX11_findEchoes_s27 n (fX11_findEchoes_L27 n k)  v1 v2 st
theorem wX11_findEchoes_L27 (C : Cx p s m args meth c cX11_findEchoes 5 wsL_law RX11 none D G ad) (n : Nat)    (res : (Unit × St))  : ∀ (k : Nat) (v1 : Int32) (v2 : Int32)  (st : St), fX11_findEchoes_L27 n k v1 v2 st = some res → At p l e (rmK 3) s m args below meth c D G ad (MQV D G ad below args s res) 5 st [(0, .ref (ad 130)), (1, .int v1), (2, .int v2)] 27 [] := by
  intro k
  induction k with
  | zero => intro v1 v2  st h; exact absurd h (by intro q; cases q)
  | succ k ih => intro v1 v2  st h; exact wX11_findEchoes_s27 C n (fX11_findEchoes_L27 n k)  v1 v2   st res ih h
def fX11_findEchoes_s25 (n : Nat)   (v1 : Int32) (st : St) : Option (Unit × St) := fX11_findEchoes_L27 n n v1 0 st
set_option maxHeartbeats 4000000 in
set_option maxRecDepth 100000 in
theorem wX11_findEchoes_s25 (C : Cx p s m args meth c cX11_findEchoes 5 wsL_law RX11 none D G ad) (n : Nat)   (v1 : Int32)   (st : St) (res : (Unit × St))  (hf : fX11_findEchoes_s25 n   v1 st = some res) : At p l e (rmK 3) s m args below meth c D G ad (MQV D G ad below args s res) 5 st [(0, .ref (ad 130)), (1, .int v1)] 25 [] := by
  obtain ⟨hx, hb, hml, hown, hts, hr, hlk, hK, had, hSt⟩ := id C
  intro H locs ls hl hP hS
  unfold fX11_findEchoes_s25 at hf
  refine lv_iconst (v := 0) hx hb dX11_findEchoes_25 (by decide) ?_
  refine lv_istore_n (lv' := [(2, .int 0), (0, .ref (ad 130)), (1, .int v1)]) hx hb dX11_findEchoes_26 rfl hl (by decide) rfl (fun ls hl => ?_)
  exact wX11_findEchoes_L27 C n res n v1 0 st hf H locs ls (lv_sub hl [1, 2, 0] rfl) hP hS
def fX11_findEchoes_s20 (n : Nat)   (v1 : Int32) (st : St) : Option (Unit × St) := fX11_findEchoes_s25 n v1 (setJ st 130 53 1)
set_option maxHeartbeats 4000000 in
set_option maxRecDepth 100000 in
theorem wX11_findEchoes_s20 (C : Cx p s m args meth c cX11_findEchoes 5 wsL_law RX11 none D G ad) (n : Nat)   (v1 : Int32)   (st : St) (res : (Unit × St))  (hf : fX11_findEchoes_s20 n   v1 st = some res) : At p l e (rmK 3) s m args below meth c D G ad (MQV D G ad below args s res) 5 st [(0, .ref (ad 130)), (1, .int v1)] 20 [] := by
  obtain ⟨hx, hb, hml, hown, hts, hr, hlk, hK, had, hSt⟩ := id C
  intro H locs ls hl hP hS
  unfold fX11_findEchoes_s20 at hf
  refine lv_aload_n hx hb dX11_findEchoes_20 rfl (lv_at hl 0 rfl) ?_
  refine lv_lconst (v := 1) hx hb dX11_findEchoes_21 (by decide) ?_
  refine g_putJ hx hb hts inlX11 tyX11_ok nmX11 hown hK had hP hS 130 ct_130 rfl 53 (by decide) (hts _ wm_36_22) rfl rfl rfl dX11_findEchoes_22 (fun H locs hP hS => ?_)
  exact wX11_findEchoes_s25 C n v1 (setJ st 130 53 1) res hf H locs ls (lv_sub hl [0, 1] rfl) hP hS
def fX11_findEchoes_s15 (n : Nat)   (v1 : Int32) (st : St) : Option (Unit × St) := fX11_findEchoes_s20 n v1 (setJ st 130 52 0)
set_option maxHeartbeats 4000000 in
set_option maxRecDepth 100000 in
theorem wX11_findEchoes_s15 (C : Cx p s m args meth c cX11_findEchoes 5 wsL_law RX11 none D G ad) (n : Nat)   (v1 : Int32)   (st : St) (res : (Unit × St))  (hf : fX11_findEchoes_s15 n   v1 st = some res) : At p l e (rmK 3) s m args below meth c D G ad (MQV D G ad below args s res) 5 st [(0, .ref (ad 130)), (1, .int v1)] 15 [] := by
  obtain ⟨hx, hb, hml, hown, hts, hr, hlk, hK, had, hSt⟩ := id C
  intro H locs ls hl hP hS
  unfold fX11_findEchoes_s15 at hf
  refine lv_aload_n hx hb dX11_findEchoes_15 rfl (lv_at hl 0 rfl) ?_
  refine lv_lconst (v := 0) hx hb dX11_findEchoes_16 (by decide) ?_
  refine g_putJ hx hb hts inlX11 tyX11_ok nmX11 hown hK had hP hS 130 ct_130 rfl 52 (by decide) (hts _ wm_36_21) rfl rfl rfl dX11_findEchoes_17 (fun H locs hP hS => ?_)
  exact wX11_findEchoes_s20 C n v1 (setJ st 130 52 0) res hf H locs ls (lv_sub hl [0, 1] rfl) hP hS
def fX11_findEchoes_s10 (n : Nat)   (v1 : Int32) (st : St) : Option (Unit × St) := fX11_findEchoes_s15 n v1 (setJ st 130 51 1)
set_option maxHeartbeats 4000000 in
set_option maxRecDepth 100000 in
theorem wX11_findEchoes_s10 (C : Cx p s m args meth c cX11_findEchoes 5 wsL_law RX11 none D G ad) (n : Nat)   (v1 : Int32)   (st : St) (res : (Unit × St))  (hf : fX11_findEchoes_s10 n   v1 st = some res) : At p l e (rmK 3) s m args below meth c D G ad (MQV D G ad below args s res) 5 st [(0, .ref (ad 130)), (1, .int v1)] 10 [] := by
  obtain ⟨hx, hb, hml, hown, hts, hr, hlk, hK, had, hSt⟩ := id C
  intro H locs ls hl hP hS
  unfold fX11_findEchoes_s10 at hf
  refine lv_aload_n hx hb dX11_findEchoes_10 rfl (lv_at hl 0 rfl) ?_
  refine lv_lconst (v := 1) hx hb dX11_findEchoes_11 (by decide) ?_
  refine g_putJ hx hb hts inlX11 tyX11_ok nmX11 hown hK had hP hS 130 ct_130 rfl 51 (by decide) (hts _ wm_36_20) rfl rfl rfl dX11_findEchoes_12 (fun H locs hP hS => ?_)
  exact wX11_findEchoes_s15 C n v1 (setJ st 130 51 1) res hf H locs ls (lv_sub hl [0, 1] rfl) hP hS
def fX11_findEchoes_s5 (n : Nat)   (v1 : Int32) (st : St) : Option (Unit × St) := fX11_findEchoes_s10 n v1 (setJ st 130 50 0)
set_option maxHeartbeats 4000000 in
set_option maxRecDepth 100000 in
theorem wX11_findEchoes_s5 (C : Cx p s m args meth c cX11_findEchoes 5 wsL_law RX11 none D G ad) (n : Nat)   (v1 : Int32)   (st : St) (res : (Unit × St))  (hf : fX11_findEchoes_s5 n   v1 st = some res) : At p l e (rmK 3) s m args below meth c D G ad (MQV D G ad below args s res) 5 st [(0, .ref (ad 130)), (1, .int v1)] 5 [] := by
  obtain ⟨hx, hb, hml, hown, hts, hr, hlk, hK, had, hSt⟩ := id C
  intro H locs ls hl hP hS
  unfold fX11_findEchoes_s5 at hf
  refine lv_aload_n hx hb dX11_findEchoes_5 rfl (lv_at hl 0 rfl) ?_
  refine lv_lconst (v := 0) hx hb dX11_findEchoes_6 (by decide) ?_
  refine g_putJ hx hb hts inlX11 tyX11_ok nmX11 hown hK had hP hS 130 ct_130 rfl 50 (by decide) (hts _ wm_36_19) rfl rfl rfl dX11_findEchoes_7 (fun H locs hP hS => ?_)
  exact wX11_findEchoes_s10 C n v1 (setJ st 130 50 0) res hf H locs ls (lv_sub hl [0, 1] rfl) hP hS
def fX11_findEchoes_s0 (n : Nat)   (v1 : Int32) (st : St) : Option (Unit × St) := fX11_findEchoes_s5 n v1 (setI st 130 47 0)
set_option maxHeartbeats 4000000 in
set_option maxRecDepth 100000 in
theorem wX11_findEchoes_s0 (C : Cx p s m args meth c cX11_findEchoes 5 wsL_law RX11 none D G ad) (n : Nat)   (v1 : Int32)   (st : St) (res : (Unit × St))  (hf : fX11_findEchoes_s0 n   v1 st = some res) : At p l e (rmK 3) s m args below meth c D G ad (MQV D G ad below args s res) 5 st [(0, .ref (ad 130)), (1, .int v1)] 0 [] := by
  obtain ⟨hx, hb, hml, hown, hts, hr, hlk, hK, had, hSt⟩ := id C
  intro H locs ls hl hP hS
  unfold fX11_findEchoes_s0 at hf
  refine lv_aload_n hx hb dX11_findEchoes_0 rfl (lv_at hl 0 rfl) ?_
  refine lv_iconst (v := 0) hx hb dX11_findEchoes_1 (by decide) ?_
  refine g_putI hx hb hts inlX11 tyX11_ok nmX11 hown hK had hP hS 130 ct_130 rfl 47 (by decide) (hts _ wm_36_14) rfl rfl rfl rfl rfl dX11_findEchoes_2 (fun H locs hP hS => ?_)
  exact wX11_findEchoes_s5 C n v1 (setI st 130 47 0) res hf H locs ls (lv_sub hl [0, 1] rfl) hP hS
def fX11_findEchoes (n : Nat)  (a1 : Int32) (st : St) : Option (Unit × St) := fX11_findEchoes_s0 n a1 st
theorem okX11_findEchoes : okY yX11_findEchoes RX11 1 := by unfold okY; decide +kernel
end
set_option maxRecDepth 100000 in
theorem kX11_findEchoes (l : Launch) (D : va_G) (G : G3) (ad : Nat → Nat) (had : Adr ad) (n : Nat)   (a1 : Int32) (st : St) (res : (Unit × St)) (hf : fX11_findEchoes n  a1 st = some res) {sz : Nat} : CtV l yX11_findEchoes (wsU yX11_findEchoes cX11_findEchoes 5 none) (rmK 3) D G ad sz [.ref (ad 130), .int a1] st res := by
  refine Met.ofW (cc := cX11_findEchoes) (maxL := 5) (ret := none) (by decide) rfl ?_
  intro p e s m args below meth c s₁ B hml hv
  obtain ⟨rfl, hsz, hP, hK, hSt⟩ := hv
  have hts := atoms_spec (ws := wsU yX11_findEchoes cX11_findEchoes 5 none) B.pre
  have C : Cx p s m _ meth c cX11_findEchoes 5 wsL_law RX11 none D G ad := ⟨B.exec, B.bytes, hml, findClass_of_methodNamed B.named, fun w h => hts w (List.mem_cons_of_mem _ h), B.returns, B.notSynchronized, hK, had, hSt⟩
  subst hsz
  have hl := lv_entry ([.ref (ad 130), .int a1]) (n := 5) (Nat.le_of_ble_eq_true rfl)
  rw [lg_entry_eq]
  generalize (lg_sl ([.ref (ad 130), .int a1]) ++ List.replicate (5 - (lg_sl ([.ref (ad 130), .int a1])).length) Slot.unset).toArray = ls at hl ⊢
  exact wX11_findEchoes_s0 C n  a1   st res hf s.heap [] ls (lv_sub hl [0, 1] rfl) hP va_S.rf
section
variable {p : Program} {l : Launch} {e : Env} {s : State} {m : MethodId} {args : Array Value} {below : List Frame} {meth : Method} {c : Code} {D : va_G} {G : G3} {ad : Nat → Nat}
def fX11_echo_s22 (n : Nat)    (st : St) : Option (Int64 × St) := some ((-9223372036854775808), st)
set_option maxHeartbeats 4000000 in
set_option maxRecDepth 100000 in
theorem wX11_echo_s22 (C : Cx p s m args meth c cX11_echo 3 wsL_law RX11 (some .long) D G ad) (n : Nat)      (st : St) (res : (Int64 × St))  (hf : fX11_echo_s22 n    st = some res) : At p l e (rmK 4) s m args below meth c D G ad (MQJ D G ad below args s res) 3 st [] 22 [] := by
  obtain ⟨hx, hb, hml, hown, hts, hr, hlk, hK, had, hSt⟩ := id C
  intro H locs ls hl hP hS
  unfold fX11_echo_s22 at hf
  refine lv_ldc2 hx hb hown (hts _ wm_14_15) dX11_echo_22 ?_
  exact g_lret hx hb hr hlk hP hS dX11_echo_25 hf
def fX11_echo_s63 (n : Nat)   (k0 : Int64) (st : St) : Option (Int64 × St) := some (k0, st)
set_option maxHeartbeats 4000000 in
set_option maxRecDepth 100000 in
theorem wX11_echo_s63 (C : Cx p s m args meth c cX11_echo 3 wsL_law RX11 (some .long) D G ad) (n : Nat)   (k0 : Int64)   (st : St) (res : (Int64 × St))  (hf : fX11_echo_s63 n   k0 st = some res) : At p l e (rmK 4) s m args below meth c D G ad (MQJ D G ad below args s res) 3 st [] 63 [.long k0] := by
  obtain ⟨hx, hb, hml, hown, hts, hr, hlk, hK, had, hSt⟩ := id C
  intro H locs ls hl hP hS
  unfold fX11_echo_s63 at hf
  exact g_lret hx hb hr hlk hP hS dX11_echo_63 hf
def fX11_echo_s57 (n : Nat)   (v1 : Int32) (st : St) : Option (Int64 × St) := if inb v1 31 = true then (fX11_echo_s63 n (st.2 160 v1.toNatClampNeg) st) else none
set_option maxHeartbeats 4000000 in
set_option maxRecDepth 100000 in
theorem wX11_echo_s57 (C : Cx p s m args meth c cX11_echo 3 wsL_law RX11 (some .long) D G ad) (n : Nat)   (v1 : Int32)   (st : St) (res : (Int64 × St))  (hf : fX11_echo_s57 n   v1 st = some res) : At p l e (rmK 4) s m args below meth c D G ad (MQJ D G ad below args s res) 3 st [(0, .ref (ad 130)), (1, .int v1)] 57 [] := by
  obtain ⟨hx, hb, hml, hown, hts, hr, hlk, hK, had, hSt⟩ := id C
  intro H locs ls hl hP hS
  unfold fX11_echo_s57 at hf
  refine lv_aload_n hx hb dX11_echo_57 rfl (lv_at hl 0 rfl) ?_
  refine g_getR hx hb hts inlX11 hown hK hP 130 ct_130 rfl 49 (by decide) (hts _ wm_8_12) rfl dX11_echo_58 ?_
  refine lv_iload_n hx hb dX11_echo_61 rfl (lv_at hl 1 rfl) ?_
  obtain ⟨g1, hf⟩ := gd hf
  refine g_lald hx hb hK hP 160 ct_160 g1 dX11_echo_62 ?_
  exact wX11_echo_s63 C n (st.2 160 v1.toNatClampNeg) st res hf H locs ls (lv_sub hl [] rfl) hP hS
def fX11_echo_s48 (n : Nat)   (v1 : Int32) (st : St) : Option (Int64 × St) := if inb v1 31 = true then (fX11_echo_s63 n (st.2 159 v1.toNatClampNeg) st) else none
set_option maxHeartbeats 4000000 in
set_option maxRecDepth 100000 in
theorem wX11_echo_s48 (C : Cx p s m args meth c cX11_echo 3 wsL_law RX11 (some .long) D G ad) (n : Nat)   (v1 : Int32)   (st : St) (res : (Int64 × St))  (hf : fX11_echo_s48 n   v1 st = some res) : At p l e (rmK 4) s m args below meth c D G ad (MQJ D G ad below args s res) 3 st [(0, .ref (ad 130)), (1, .int v1)] 48 [] := by
  obtain ⟨hx, hb, hml, hown, hts, hr, hlk, hK, had, hSt⟩ := id C
  intro H locs ls hl hP hS
  unfold fX11_echo_s48 at hf
  refine lv_aload_n hx hb dX11_echo_48 rfl (lv_at hl 0 rfl) ?_
  refine g_getR hx hb hts inlX11 hown hK hP 130 ct_130 rfl 48 (by decide) (hts _ wm_8_11) rfl dX11_echo_49 ?_
  refine lv_iload_n hx hb dX11_echo_52 rfl (lv_at hl 1 rfl) ?_
  obtain ⟨g1, hf⟩ := gd hf
  refine g_lald hx hb hK hP 159 ct_159 g1 dX11_echo_53 ?_
  refine lv_goto (tgt := 63) hx hb dX11_echo_54 (by decide) ?_
  exact wX11_echo_s63 C n (st.2 159 v1.toNatClampNeg) st res hf H locs ls (lv_sub hl [] rfl) hP hS
def fX11_echo_s44 (n : Nat)   (v1 : Int32) (v2 : Int32) (st : St) : Option (Int64 × St) := if v2 = 0 then fX11_echo_s48 n v1 st else fX11_echo_s57 n v1 st
set_option maxHeartbeats 4000000 in
set_option maxRecDepth 100000 in
theorem wX11_echo_s44 (C : Cx p s m args meth c cX11_echo 3 wsL_law RX11 (some .long) D G ad) (n : Nat)   (v1 : Int32) (v2 : Int32)   (st : St) (res : (Int64 × St))  (hf : fX11_echo_s44 n   v1 v2 st = some res) : At p l e (rmK 4) s m args below meth c D G ad (MQJ D G ad below args s res) 3 st [(0, .ref (ad 130)), (1, .int v1), (2, .int v2)] 44 [] := by
  obtain ⟨hx, hb, hml, hown, hts, hr, hlk, hK, had, hSt⟩ := id C
  intro H locs ls hl hP hS
  unfold fX11_echo_s44 at hf
  refine lv_iload_n hx hb dX11_echo_44 rfl (lv_at hl 2 rfl) ?_
  refine lv_if_ne (tgt := 57) hx hb dX11_echo_45 (by decide) (fun q => ?_) (fun q => ?_)
  · exact wX11_echo_s57 C n v1 st res (ie hf q) H locs ls (lv_sub hl [0, 1] rfl) hP hS
  · exact wX11_echo_s48 C n v1 st res (it hf q) H locs ls (lv_sub hl [0, 1] rfl) hP hS
def fX11_echo_s38 (n : Nat)    (st : St) : Option (Int64 × St) := fX11_echo_s63 n (-9223372036854775807) st
set_option maxHeartbeats 4000000 in
set_option maxRecDepth 100000 in
theorem wX11_echo_s38 (C : Cx p s m args meth c cX11_echo 3 wsL_law RX11 (some .long) D G ad) (n : Nat)      (st : St) (res : (Int64 × St))  (hf : fX11_echo_s38 n    st = some res) : At p l e (rmK 4) s m args below meth c D G ad (MQJ D G ad below args s res) 3 st [] 38 [] := by
  obtain ⟨hx, hb, hml, hown, hts, hr, hlk, hK, had, hSt⟩ := id C
  intro H locs ls hl hP hS
  unfold fX11_echo_s38 at hf
  refine lv_ldc2 hx hb hown (hts _ wm_34_7) dX11_echo_38 ?_
  refine lv_goto (tgt := 63) hx hb dX11_echo_41 (by decide) ?_
  exact wX11_echo_s63 C n (-9223372036854775807) st res hf H locs ls (lv_sub hl [] rfl) hP hS
def fX11_echo_s31 (n : Nat)   (v1 : Int32) (v2 : Int32) (st : St) : Option (Int64 × St) := if (st.1 130 47) = 0 then fX11_echo_s44 n v1 v2 st else fX11_echo_s38 n st
set_option maxHeartbeats 4000000 in
set_option maxRecDepth 100000 in
theorem wX11_echo_s31 (C : Cx p s m args meth c cX11_echo 3 wsL_law RX11 (some .long) D G ad) (n : Nat)   (v1 : Int32) (v2 : Int32)   (st : St) (res : (Int64 × St))  (hf : fX11_echo_s31 n   v1 v2 st = some res) : At p l e (rmK 4) s m args below meth c D G ad (MQJ D G ad below args s res) 3 st [(0, .ref (ad 130)), (1, .int v1), (2, .int v2)] 31 [] := by
  obtain ⟨hx, hb, hml, hown, hts, hr, hlk, hK, had, hSt⟩ := id C
  intro H locs ls hl hP hS
  unfold fX11_echo_s31 at hf
  refine lv_aload_n hx hb dX11_echo_31 rfl (lv_at hl 0 rfl) ?_
  refine g_getI hx hb hts inlX11 hown hK hP 130 ct_130 rfl 47 (by decide) (hts _ wm_36_14) rfl dX11_echo_32 ?_
  refine lv_if_eq (tgt := 44) hx hb dX11_echo_35 (by decide) (fun q => ?_) (fun q => ?_)
  · exact wX11_echo_s44 C n v1 v2 st res (it hf q) H locs ls (lv_sub hl [0, 1, 2] rfl) hP hS
  · exact wX11_echo_s38 C n st res (ie hf q) H locs ls (lv_sub hl [] rfl) hP hS
def fX11_echo_s26 (n : Nat)   (v1 : Int32) (v2 : Int32) (st : St) : Option (Int64 × St) := (fX11_findEchoes n v1 st).bind (fun q => fX11_echo_s31 n v1 v2 q.2)
set_option maxHeartbeats 4000000 in
set_option maxRecDepth 100000 in
theorem wX11_echo_s26 (C : Cx p s m args meth c cX11_echo 3 wsL_law RX11 (some .long) D G ad) (n : Nat)   (v1 : Int32) (v2 : Int32)   (st : St) (res : (Int64 × St))  (hf : fX11_echo_s26 n   v1 v2 st = some res) : At p l e (rmK 4) s m args below meth c D G ad (MQJ D G ad below args s res) 3 st [(0, .ref (ad 130)), (1, .int v1), (2, .int v2)] 26 [] := by
  obtain ⟨hx, hb, hml, hown, hts, hr, hlk, hK, had, hSt⟩ := id C
  intro H locs ls hl hP hS
  unfold fX11_echo_s26 at hf
  refine lv_aload_n hx hb dX11_echo_26 rfl (lv_at hl 0 rfl) ?_
  refine lv_iload_n hx hb dX11_echo_27 rfl (lv_at hl 1 rfl) ?_
  obtain ⟨q, hq, hf⟩ := bd hf
  refine gcV_v (k := 3) (o := 130) (As := [.int v1]) (rest := []) hx hb hml hown hts hK hSt hP hS hl.1 (goodV wm_36_15 wm_36_16 wm_36_17 wm_1_5 wm_36_18) okX11_findEchoes ct_130 rfl rfl (Nat.le_of_ble_eq_true rfl) (Nat.le_of_ble_eq_true rfl) rfl rfl (Nat.le_of_ble_eq_true rfl) dX11_echo_28 (kX11_findEchoes l D G ad had n  v1 st q hq) (fun H locs hP hS => ?_)
  exact wX11_echo_s31 C n v1 v2 q.2 res hf H locs ls (lv_sub hl [0, 1, 2] rfl) hP hS
def fX11_echo_s19 (n : Nat)   (v1 : Int32) (v2 : Int32) (k0 : Int32) (st : St) : Option (Int64 × St) := if k0 = 0 then fX11_echo_s22 n st else fX11_echo_s26 n v1 v2 st
set_option maxHeartbeats 4000000 in
set_option maxRecDepth 100000 in
theorem wX11_echo_s19 (C : Cx p s m args meth c cX11_echo 3 wsL_law RX11 (some .long) D G ad) (n : Nat)   (v1 : Int32) (v2 : Int32) (k0 : Int32)   (st : St) (res : (Int64 × St))  (hf : fX11_echo_s19 n   v1 v2 k0 st = some res) : At p l e (rmK 4) s m args below meth c D G ad (MQJ D G ad below args s res) 3 st [(0, .ref (ad 130)), (1, .int v1), (2, .int v2)] 19 [.int k0] := by
  obtain ⟨hx, hb, hml, hown, hts, hr, hlk, hK, had, hSt⟩ := id C
  intro H locs ls hl hP hS
  unfold fX11_echo_s19 at hf
  refine lv_if_ne (tgt := 26) hx hb dX11_echo_19 (by decide) (fun q => ?_) (fun q => ?_)
  · exact wX11_echo_s26 C n v1 v2 st res (ie hf q) H locs ls (lv_sub hl [0, 1, 2] rfl) hP hS
  · exact wX11_echo_s22 C n st res (it hf q) H locs ls (lv_sub hl [] rfl) hP hS
def fX11_echo_s12 (n : Nat)   (v1 : Int32) (v2 : Int32) (st : St) : Option (Int64 × St) := (fX11_in n v2.toInt64 0 1 st).bind (fun q => fX11_echo_s19 n v1 v2 q.1 q.2)
set_option maxHeartbeats 4000000 in
set_option maxRecDepth 100000 in
theorem wX11_echo_s12 (C : Cx p s m args meth c cX11_echo 3 wsL_law RX11 (some .long) D G ad) (n : Nat)   (v1 : Int32) (v2 : Int32)   (st : St) (res : (Int64 × St))  (hf : fX11_echo_s12 n   v1 v2 st = some res) : At p l e (rmK 4) s m args below meth c D G ad (MQJ D G ad below args s res) 3 st [(0, .ref (ad 130)), (1, .int v1), (2, .int v2)] 12 [] := by
  obtain ⟨hx, hb, hml, hown, hts, hr, hlk, hK, had, hSt⟩ := id C
  intro H locs ls hl hP hS
  unfold fX11_echo_s12 at hf
  refine lv_iload_n hx hb dX11_echo_12 rfl (lv_at hl 2 rfl) ?_
  refine lv_i2l hx hb dX11_echo_13 rfl ?_
  refine lv_lconst (v := 0) hx hb dX11_echo_14 (by decide) ?_
  refine lv_lconst (v := 1) hx hb dX11_echo_15 (by decide) ?_
  obtain ⟨q, hq, hf⟩ := bd hf
  refine gcS_i (k := 0) (As := [.long v2.toInt64, .long 0, .long 1]) (rest := []) hx hb hml hown hts hK hSt hP hS hl.1 (goodS wm_10_21 wm_10_22 wm_1_5 wm_10_23) okX11_in (Nat.le_of_ble_eq_true rfl) (Nat.le_of_ble_eq_true rfl) rfl rfl (Nat.le_of_ble_eq_true rfl) dX11_echo_16 (kX11_in l D G ad had n  v2.toInt64 0 1 st q hq) (fun H locs hP hS => ?_)
  exact wX11_echo_s19 C n v1 v2 q.1 q.2 res hf H locs ls (lv_sub hl [0, 1, 2] rfl) hP hS
def fX11_echo_s9 (n : Nat)   (v1 : Int32) (v2 : Int32) (k0 : Int32) (st : St) : Option (Int64 × St) := if k0 = 0 then fX11_echo_s22 n st else fX11_echo_s12 n v1 v2 st
set_option maxHeartbeats 4000000 in
set_option maxRecDepth 100000 in
theorem wX11_echo_s9 (C : Cx p s m args meth c cX11_echo 3 wsL_law RX11 (some .long) D G ad) (n : Nat)   (v1 : Int32) (v2 : Int32) (k0 : Int32)   (st : St) (res : (Int64 × St))  (hf : fX11_echo_s9 n   v1 v2 k0 st = some res) : At p l e (rmK 4) s m args below meth c D G ad (MQJ D G ad below args s res) 3 st [(0, .ref (ad 130)), (1, .int v1), (2, .int v2)] 9 [.int k0] := by
  obtain ⟨hx, hb, hml, hown, hts, hr, hlk, hK, had, hSt⟩ := id C
  intro H locs ls hl hP hS
  unfold fX11_echo_s9 at hf
  refine lv_if_eq (tgt := 22) hx hb dX11_echo_9 (by decide) (fun q => ?_) (fun q => ?_)
  · exact wX11_echo_s22 C n st res (it hf q) H locs ls (lv_sub hl [] rfl) hP hS
  · exact wX11_echo_s12 C n v1 v2 st res (ie hf q) H locs ls (lv_sub hl [0, 1, 2] rfl) hP hS
def fX11_echo_s0 (n : Nat)   (v1 : Int32) (v2 : Int32) (st : St) : Option (Int64 × St) := (fX11_in n v1.toInt64 0 30 st).bind (fun q => fX11_echo_s9 n v1 v2 q.1 q.2)
set_option maxHeartbeats 4000000 in
set_option maxRecDepth 100000 in
theorem wX11_echo_s0 (C : Cx p s m args meth c cX11_echo 3 wsL_law RX11 (some .long) D G ad) (n : Nat)   (v1 : Int32) (v2 : Int32)   (st : St) (res : (Int64 × St))  (hf : fX11_echo_s0 n   v1 v2 st = some res) : At p l e (rmK 4) s m args below meth c D G ad (MQJ D G ad below args s res) 3 st [(0, .ref (ad 130)), (1, .int v1), (2, .int v2)] 0 [] := by
  obtain ⟨hx, hb, hml, hown, hts, hr, hlk, hK, had, hSt⟩ := id C
  intro H locs ls hl hP hS
  unfold fX11_echo_s0 at hf
  refine lv_iload_n hx hb dX11_echo_0 rfl (lv_at hl 1 rfl) ?_
  refine lv_i2l hx hb dX11_echo_1 rfl ?_
  refine lv_lconst (v := 0) hx hb dX11_echo_2 (by decide) ?_
  refine lv_ldc2 hx hb hown (hts _ wm_36_13) dX11_echo_3 ?_
  obtain ⟨q, hq, hf⟩ := bd hf
  refine gcS_i (k := 0) (As := [.long v1.toInt64, .long 0, .long 30]) (rest := []) hx hb hml hown hts hK hSt hP hS hl.1 (goodS wm_10_21 wm_10_22 wm_1_5 wm_10_23) okX11_in (Nat.le_of_ble_eq_true rfl) (Nat.le_of_ble_eq_true rfl) rfl rfl (Nat.le_of_ble_eq_true rfl) dX11_echo_6 (kX11_in l D G ad had n  v1.toInt64 0 30 st q hq) (fun H locs hP hS => ?_)
  exact wX11_echo_s9 C n v1 v2 q.1 q.2 res hf H locs ls (lv_sub hl [0, 1, 2] rfl) hP hS
def fX11_echo (n : Nat)  (a1 : Int32) (a2 : Int32) (st : St) : Option (Int64 × St) := fX11_echo_s0 n a1 a2 st
theorem okX11_echo : okY yX11_echo RX11 2 := by unfold okY; decide +kernel
end
set_option maxRecDepth 100000 in
theorem kX11_echo (l : Launch) (D : va_G) (G : G3) (ad : Nat → Nat) (had : Adr ad) (n : Nat)   (a1 : Int32) (a2 : Int32) (st : St) (res : (Int64 × St)) (hf : fX11_echo n  a1 a2 st = some res) {sz : Nat} : CtJ l yX11_echo (wsU yX11_echo cX11_echo 3 (some .long)) (rmK 4) D G ad sz [.ref (ad 130), .int a1, .int a2] st res := by
  refine Met.ofW (cc := cX11_echo) (maxL := 3) (ret := (some .long)) (by decide) rfl ?_
  intro p e s m args below meth c s₁ B hml hv
  obtain ⟨rfl, hsz, hP, hK, hSt⟩ := hv
  have hts := atoms_spec (ws := wsU yX11_echo cX11_echo 3 (some .long)) B.pre
  have C : Cx p s m _ meth c cX11_echo 3 wsL_law RX11 (some .long) D G ad := ⟨B.exec, B.bytes, hml, findClass_of_methodNamed B.named, fun w h => hts w (List.mem_cons_of_mem _ h), B.returns, B.notSynchronized, hK, had, hSt⟩
  subst hsz
  have hl := lv_entry ([.ref (ad 130), .int a1, .int a2]) (n := 3) (Nat.le_of_ble_eq_true rfl)
  rw [lg_entry_eq]
  generalize (lg_sl ([.ref (ad 130), .int a1, .int a2]) ++ List.replicate (3 - (lg_sl ([.ref (ad 130), .int a1, .int a2])).length) Slot.unset).toArray = ls at hl ⊢
  exact wX11_echo_s0 C n  a1 a2   st res hf s.heap [] ls (lv_sub hl [0, 1, 2] rfl) hP va_S.rf
section
variable {p : Program} {l : Launch} {e : Env} {s : State} {m : MethodId} {args : Array Value} {below : List Frame} {meth : Method} {c : Code} {D : va_G} {G : G3} {ad : Nat → Nat}
def fX11_findBelow_s116 (n : Nat)    (st : St) : Option (Unit × St) := some ((), st)
set_option maxHeartbeats 4000000 in
set_option maxRecDepth 100000 in
theorem wX11_findBelow_s116 (C : Cx p s m args meth c cX11_findBelow 10 wsL_law RX11 none D G ad) (n : Nat)      (st : St) (res : (Unit × St))  (hf : fX11_findBelow_s116 n    st = some res) : At p l e (rmK 3) s m args below meth c D G ad (MQV D G ad below args s res) 10 st [] 116 [] := by
  obtain ⟨hx, hb, hml, hown, hts, hr, hlk, hK, had, hSt⟩ := id C
  intro H locs ls hl hP hS
  unfold fX11_findBelow_s116 at hf
  exact g_vret hx hb hr hlk hP hS dX11_findBelow_116 hf
def fX11_findBelow_s106 (n : Nat)    (st : St) : Option (Unit × St) := if inb 2 3 = true then (fX11_findBelow_s116 n (setJ st 162 (2 : Int32).toNatClampNeg (st.2 130 46))) else none
set_option maxHeartbeats 4000000 in
set_option maxRecDepth 100000 in
theorem wX11_findBelow_s106 (C : Cx p s m args meth c cX11_findBelow 10 wsL_law RX11 none D G ad) (n : Nat)      (st : St) (res : (Unit × St))  (hf : fX11_findBelow_s106 n    st = some res) : At p l e (rmK 3) s m args below meth c D G ad (MQV D G ad below args s res) 10 st [(0, .ref (ad 130))] 106 [] := by
  obtain ⟨hx, hb, hml, hown, hts, hr, hlk, hK, had, hSt⟩ := id C
  intro H locs ls hl hP hS
  unfold fX11_findBelow_s106 at hf
  refine lv_aload_n hx hb dX11_findBelow_106 rfl (lv_at hl 0 rfl) ?_
  refine g_getR hx hb hts inlX11 hown hK hP 130 ct_130 rfl 55 (by decide) (hts _ wm_8_14) rfl dX11_findBelow_107 ?_
  refine lv_iconst (v := 2) hx hb dX11_findBelow_110 (by decide) ?_
  refine lv_aload_n hx hb dX11_findBelow_111 rfl (lv_at hl 0 rfl) ?_
  refine g_getJ hx hb hts inlX11 hown hK hP 130 ct_130 rfl 46 (by decide) (hts _ wm_37_0) rfl dX11_findBelow_112 ?_
  obtain ⟨g1, hf⟩ := gd hf
  refine g_last hx hb hK had hP hS 162 ct_162 g1 dX11_findBelow_115 (fun H locs hP hS => ?_)
  exact wX11_findBelow_s116 C n (setJ st 162 (2 : Int32).toNatClampNeg (st.2 130 46)) res hf H locs ls (lv_sub hl [] rfl) hP hS
def fX11_findBelow_s96 (n : Nat)    (st : St) : Option (Unit × St) := if inb 2 3 = true then (fX11_findBelow_s106 n (setJ st 161 (2 : Int32).toNatClampNeg (st.2 130 45))) else none
set_option maxHeartbeats 4000000 in
set_option maxRecDepth 100000 in
theorem wX11_findBelow_s96 (C : Cx p s m args meth c cX11_findBelow 10 wsL_law RX11 none D G ad) (n : Nat)      (st : St) (res : (Unit × St))  (hf : fX11_findBelow_s96 n    st = some res) : At p l e (rmK 3) s m args below meth c D G ad (MQV D G ad below args s res) 10 st [(0, .ref (ad 130))] 96 [] := by
  obtain ⟨hx, hb, hml, hown, hts, hr, hlk, hK, had, hSt⟩ := id C
  intro H locs ls hl hP hS
  unfold fX11_findBelow_s96 at hf
  refine lv_aload_n hx hb dX11_findBelow_96 rfl (lv_at hl 0 rfl) ?_
  refine g_getR hx hb hts inlX11 hown hK hP 130 ct_130 rfl 54 (by decide) (hts _ wm_8_13) rfl dX11_findBelow_97 ?_
  refine lv_iconst (v := 2) hx hb dX11_findBelow_100 (by decide) ?_
  refine lv_aload_n hx hb dX11_findBelow_101 rfl (lv_at hl 0 rfl) ?_
  refine g_getJ hx hb hts inlX11 hown hK hP 130 ct_130 rfl 45 (by decide) (hts _ wm_36_23) rfl dX11_findBelow_102 ?_
  obtain ⟨g1, hf⟩ := gd hf
  refine g_last hx hb hK had hP hS 161 ct_161 g1 dX11_findBelow_105 (fun H locs hP hS => ?_)
  exact wX11_findBelow_s106 C n (setJ st 161 (2 : Int32).toNatClampNeg (st.2 130 45)) res hf H locs ls (lv_sub hl [0] rfl) hP hS
def fX11_findBelow_s85 (n : Nat)   (v2 : Int64) (v4 : Int64) (v6 : Int64) (v8 : Int64) (st : St) : Option (Unit × St) := (fX11_multiplies n v2 v4 v6 v8 st).bind (fun q => fX11_findBelow_s96 n q.2)
set_option maxHeartbeats 4000000 in
set_option maxRecDepth 100000 in
theorem wX11_findBelow_s85 (C : Cx p s m args meth c cX11_findBelow 10 wsL_law RX11 none D G ad) (n : Nat)   (v2 : Int64) (v4 : Int64) (v6 : Int64) (v8 : Int64)   (st : St) (res : (Unit × St))  (hf : fX11_findBelow_s85 n   v2 v4 v6 v8 st = some res) : At p l e (rmK 3) s m args below meth c D G ad (MQV D G ad below args s res) 10 st [(0, .ref (ad 130)), (2, .long v2), (4, .long v4), (6, .long v6), (8, .long v8)] 85 [] := by
  obtain ⟨hx, hb, hml, hown, hts, hr, hlk, hK, had, hSt⟩ := id C
  intro H locs ls hl hP hS
  unfold fX11_findBelow_s85 at hf
  refine lv_aload_n hx hb dX11_findBelow_85 rfl (lv_at hl 0 rfl) ?_
  refine lv_lload_n hx hb dX11_findBelow_86 rfl (lv_at hl 1 rfl) ?_
  refine lv_lload hx hb dX11_findBelow_87 (lv_at hl 2 rfl) ?_
  refine lv_lload hx hb dX11_findBelow_89 (lv_at hl 3 rfl) ?_
  refine lv_lload hx hb dX11_findBelow_91 (lv_at hl 4 rfl) ?_
  obtain ⟨q, hq, hf⟩ := bd hf
  refine gcV_v (k := 2) (o := 130) (As := [.long v2, .long v4, .long v6, .long v8]) (rest := []) hx hb hml hown hts hK hSt hP hS hl.1 (goodV wm_37_9 wm_37_10 wm_37_11 wm_1_5 wm_37_12) okX11_multiplies ct_130 rfl rfl (Nat.le_of_ble_eq_true rfl) (Nat.le_of_ble_eq_true rfl) rfl rfl (Nat.le_of_ble_eq_true rfl) dX11_findBelow_93 (kX11_multiplies l D G ad had n  v2 v4 v6 v8 st q hq) (fun H locs hP hS => ?_)
  exact wX11_findBelow_s96 C n q.2 res hf H locs ls (lv_sub hl [0] rfl) hP hS
def fX11_findBelow_s75 (n : Nat)   (v2 : Int64) (v4 : Int64) (v6 : Int64) (v8 : Int64) (st : St) : Option (Unit × St) := if inb 1 3 = true then (fX11_findBelow_s85 n v2 v4 v6 v8 (setJ st 162 (1 : Int32).toNatClampNeg (st.2 130 46))) else none
set_option maxHeartbeats 4000000 in
set_option maxRecDepth 100000 in
theorem wX11_findBelow_s75 (C : Cx p s m args meth c cX11_findBelow 10 wsL_law RX11 none D G ad) (n : Nat)   (v2 : Int64) (v4 : Int64) (v6 : Int64) (v8 : Int64)   (st : St) (res : (Unit × St))  (hf : fX11_findBelow_s75 n   v2 v4 v6 v8 st = some res) : At p l e (rmK 3) s m args below meth c D G ad (MQV D G ad below args s res) 10 st [(0, .ref (ad 130)), (2, .long v2), (4, .long v4), (6, .long v6), (8, .long v8)] 75 [] := by
  obtain ⟨hx, hb, hml, hown, hts, hr, hlk, hK, had, hSt⟩ := id C
  intro H locs ls hl hP hS
  unfold fX11_findBelow_s75 at hf
  refine lv_aload_n hx hb dX11_findBelow_75 rfl (lv_at hl 0 rfl) ?_
  refine g_getR hx hb hts inlX11 hown hK hP 130 ct_130 rfl 55 (by decide) (hts _ wm_8_14) rfl dX11_findBelow_76 ?_
  refine lv_iconst (v := 1) hx hb dX11_findBelow_79 (by decide) ?_
  refine lv_aload_n hx hb dX11_findBelow_80 rfl (lv_at hl 0 rfl) ?_
  refine g_getJ hx hb hts inlX11 hown hK hP 130 ct_130 rfl 46 (by decide) (hts _ wm_37_0) rfl dX11_findBelow_81 ?_
  obtain ⟨g1, hf⟩ := gd hf
  refine g_last hx hb hK had hP hS 162 ct_162 g1 dX11_findBelow_84 (fun H locs hP hS => ?_)
  exact wX11_findBelow_s85 C n v2 v4 v6 v8 (setJ st 162 (1 : Int32).toNatClampNeg (st.2 130 46)) res hf H locs ls (lv_sub hl [0, 1, 2, 3, 4] rfl) hP hS
def fX11_findBelow_s64 (n : Nat)   (v2 : Int64) (v4 : Int64) (v6 : Int64) (v8 : Int64) (st : St) : Option (Unit × St) := if inb 1 3 = true then (fX11_findBelow_s75 n v2 v4 v6 v8 (setJ st 161 (1 : Int32).toNatClampNeg (-(st.2 130 45)))) else none
set_option maxHeartbeats 4000000 in
set_option maxRecDepth 100000 in
theorem wX11_findBelow_s64 (C : Cx p s m args meth c cX11_findBelow 10 wsL_law RX11 none D G ad) (n : Nat)   (v2 : Int64) (v4 : Int64) (v6 : Int64) (v8 : Int64)   (st : St) (res : (Unit × St))  (hf : fX11_findBelow_s64 n   v2 v4 v6 v8 st = some res) : At p l e (rmK 3) s m args below meth c D G ad (MQV D G ad below args s res) 10 st [(0, .ref (ad 130)), (2, .long v2), (4, .long v4), (6, .long v6), (8, .long v8)] 64 [] := by
  obtain ⟨hx, hb, hml, hown, hts, hr, hlk, hK, had, hSt⟩ := id C
  intro H locs ls hl hP hS
  unfold fX11_findBelow_s64 at hf
  refine lv_aload_n hx hb dX11_findBelow_64 rfl (lv_at hl 0 rfl) ?_
  refine g_getR hx hb hts inlX11 hown hK hP 130 ct_130 rfl 54 (by decide) (hts _ wm_8_13) rfl dX11_findBelow_65 ?_
  refine lv_iconst (v := 1) hx hb dX11_findBelow_68 (by decide) ?_
  refine lv_aload_n hx hb dX11_findBelow_69 rfl (lv_at hl 0 rfl) ?_
  refine g_getJ hx hb hts inlX11 hown hK hP 130 ct_130 rfl 45 (by decide) (hts _ wm_36_23) rfl dX11_findBelow_70 ?_
  refine lv_lneg hx hb dX11_findBelow_73 ?_
  obtain ⟨g1, hf⟩ := gd hf
  refine g_last hx hb hK had hP hS 161 ct_161 g1 dX11_findBelow_74 (fun H locs hP hS => ?_)
  exact wX11_findBelow_s75 C n v2 v4 v6 v8 (setJ st 161 (1 : Int32).toNatClampNeg (-(st.2 130 45))) res hf H locs ls (lv_sub hl [0, 1, 2, 3, 4] rfl) hP hS
def fX11_findBelow_s41 (n : Nat)   (v2 : Int64) (v4 : Int64) (st : St) : Option (Unit × St) := (fX11_adds n v2 v4 (st.2 130 45) (st.2 130 46) st).bind (fun q => fX11_findBelow_s64 n v2 v4 (st.2 130 45) (st.2 130 46) q.2)
set_option maxHeartbeats 4000000 in
set_option maxRecDepth 100000 in
theorem wX11_findBelow_s41 (C : Cx p s m args meth c cX11_findBelow 10 wsL_law RX11 none D G ad) (n : Nat)   (v2 : Int64) (v4 : Int64)   (st : St) (res : (Unit × St))  (hf : fX11_findBelow_s41 n   v2 v4 st = some res) : At p l e (rmK 3) s m args below meth c D G ad (MQV D G ad below args s res) 10 st [(0, .ref (ad 130)), (2, .long v2), (4, .long v4)] 41 [] := by
  obtain ⟨hx, hb, hml, hown, hts, hr, hlk, hK, had, hSt⟩ := id C
  intro H locs ls hl hP hS
  unfold fX11_findBelow_s41 at hf
  refine lv_aload_n hx hb dX11_findBelow_41 rfl (lv_at hl 0 rfl) ?_
  refine g_getJ hx hb hts inlX11 hown hK hP 130 ct_130 rfl 45 (by decide) (hts _ wm_36_23) rfl dX11_findBelow_42 ?_
  refine lv_lstore (lv' := [(6, .long (st.2 130 45)), (0, .ref (ad 130)), (2, .long v2), (4, .long v4)]) hx hb dX11_findBelow_45 hl (by decide) rfl (fun ls hl => ?_)
  refine lv_aload_n hx hb dX11_findBelow_47 rfl (lv_at hl 1 rfl) ?_
  refine g_getJ hx hb hts inlX11 hown hK hP 130 ct_130 rfl 46 (by decide) (hts _ wm_37_0) rfl dX11_findBelow_48 ?_
  refine lv_lstore (lv' := [(8, .long (st.2 130 46)), (6, .long (st.2 130 45)), (0, .ref (ad 130)), (2, .long v2), (4, .long v4)]) hx hb dX11_findBelow_51 hl (by decide) rfl (fun ls hl => ?_)
  refine lv_aload_n hx hb dX11_findBelow_53 rfl (lv_at hl 2 rfl) ?_
  refine lv_lload_n hx hb dX11_findBelow_54 rfl (lv_at hl 3 rfl) ?_
  refine lv_lload hx hb dX11_findBelow_55 (lv_at hl 4 rfl) ?_
  refine lv_lload hx hb dX11_findBelow_57 (lv_at hl 1 rfl) ?_
  refine lv_lload hx hb dX11_findBelow_59 (lv_at hl 0 rfl) ?_
  obtain ⟨q, hq, hf⟩ := bd hf
  refine gcV_v (k := 2) (o := 130) (As := [.long v2, .long v4, .long (st.2 130 45), .long (st.2 130 46)]) (rest := []) hx hb hml hown hts hK hSt hP hS hl.1 (goodV wm_37_1 wm_37_2 wm_37_3 wm_1_5 wm_37_4) okX11_adds ct_130 rfl rfl (Nat.le_of_ble_eq_true rfl) (Nat.le_of_ble_eq_true rfl) rfl rfl (Nat.le_of_ble_eq_true rfl) dX11_findBelow_61 (kX11_adds l D G ad had n  v2 v4 (st.2 130 45) (st.2 130 46) st q hq) (fun H locs hP hS => ?_)
  exact wX11_findBelow_s64 C n v2 v4 (st.2 130 45) (st.2 130 46) q.2 res hf H locs ls (lv_sub hl [2, 3, 4, 1, 0] rfl) hP hS
def fX11_findBelow_s15 (n : Nat)    (st : St) : Option (Unit × St) := (fX11_adds n 1 1 (-(st.2 130 42)) (st.2 130 43) st).bind (fun q => fX11_findBelow_s41 n (st.2 130 45) (st.2 130 46) q.2)
set_option maxHeartbeats 4000000 in
set_option maxRecDepth 100000 in
theorem wX11_findBelow_s15 (C : Cx p s m args meth c cX11_findBelow 10 wsL_law RX11 none D G ad) (n : Nat)      (st : St) (res : (Unit × St))  (hf : fX11_findBelow_s15 n    st = some res) : At p l e (rmK 3) s m args below meth c D G ad (MQV D G ad below args s res) 10 st [(0, .ref (ad 130))] 15 [] := by
  obtain ⟨hx, hb, hml, hown, hts, hr, hlk, hK, had, hSt⟩ := id C
  intro H locs ls hl hP hS
  unfold fX11_findBelow_s15 at hf
  refine lv_aload_n hx hb dX11_findBelow_15 rfl (lv_at hl 0 rfl) ?_
  refine g_getJ hx hb hts inlX11 hown hK hP 130 ct_130 rfl 45 (by decide) (hts _ wm_36_23) rfl dX11_findBelow_16 ?_
  refine lv_lstore_n (lv' := [(2, .long (st.2 130 45)), (0, .ref (ad 130))]) hx hb dX11_findBelow_19 rfl hl (by decide) rfl (fun ls hl => ?_)
  refine lv_aload_n hx hb dX11_findBelow_20 rfl (lv_at hl 1 rfl) ?_
  refine g_getJ hx hb hts inlX11 hown hK hP 130 ct_130 rfl 46 (by decide) (hts _ wm_37_0) rfl dX11_findBelow_21 ?_
  refine lv_lstore (lv' := [(4, .long (st.2 130 46)), (2, .long (st.2 130 45)), (0, .ref (ad 130))]) hx hb dX11_findBelow_24 hl (by decide) rfl (fun ls hl => ?_)
  refine lv_aload_n hx hb dX11_findBelow_26 rfl (lv_at hl 2 rfl) ?_
  refine lv_lconst (v := 1) hx hb dX11_findBelow_27 (by decide) ?_
  refine lv_lconst (v := 1) hx hb dX11_findBelow_28 (by decide) ?_
  refine lv_aload_n hx hb dX11_findBelow_29 rfl (lv_at hl 2 rfl) ?_
  refine g_getJ hx hb hts inlX11 hown hK hP 130 ct_130 rfl 42 (by decide) (hts _ wm_8_8) rfl dX11_findBelow_30 ?_
  refine lv_lneg hx hb dX11_findBelow_33 ?_
  refine lv_aload_n hx hb dX11_findBelow_34 rfl (lv_at hl 2 rfl) ?_
  refine g_getJ hx hb hts inlX11 hown hK hP 130 ct_130 rfl 43 (by decide) (hts _ wm_8_9) rfl dX11_findBelow_35 ?_
  obtain ⟨q, hq, hf⟩ := bd hf
  refine gcV_v (k := 2) (o := 130) (As := [.long 1, .long 1, .long (-(st.2 130 42)), .long (st.2 130 43)]) (rest := []) hx hb hml hown hts hK hSt hP hS hl.1 (goodV wm_37_1 wm_37_2 wm_37_3 wm_1_5 wm_37_4) okX11_adds ct_130 rfl rfl (Nat.le_of_ble_eq_true rfl) (Nat.le_of_ble_eq_true rfl) rfl rfl (Nat.le_of_ble_eq_true rfl) dX11_findBelow_38 (kX11_adds l D G ad had n  1 1 (-(st.2 130 42)) (st.2 130 43) st q hq) (fun H locs hP hS => ?_)
  exact wX11_findBelow_s41 C n (st.2 130 45) (st.2 130 46) q.2 res hf H locs ls (lv_sub hl [2, 1, 0] rfl) hP hS
def fX11_findBelow_s0 (n : Nat)    (st : St) : Option (Unit × St) := (fX11_adds n 1 1 (-(st.2 130 40)) (st.2 130 41) st).bind (fun q => fX11_findBelow_s15 n q.2)
set_option maxHeartbeats 4000000 in
set_option maxRecDepth 100000 in
theorem wX11_findBelow_s0 (C : Cx p s m args meth c cX11_findBelow 10 wsL_law RX11 none D G ad) (n : Nat)      (st : St) (res : (Unit × St))  (hf : fX11_findBelow_s0 n    st = some res) : At p l e (rmK 3) s m args below meth c D G ad (MQV D G ad below args s res) 10 st [(0, .ref (ad 130))] 0 [] := by
  obtain ⟨hx, hb, hml, hown, hts, hr, hlk, hK, had, hSt⟩ := id C
  intro H locs ls hl hP hS
  unfold fX11_findBelow_s0 at hf
  refine lv_aload_n hx hb dX11_findBelow_0 rfl (lv_at hl 0 rfl) ?_
  refine lv_lconst (v := 1) hx hb dX11_findBelow_1 (by decide) ?_
  refine lv_lconst (v := 1) hx hb dX11_findBelow_2 (by decide) ?_
  refine lv_aload_n hx hb dX11_findBelow_3 rfl (lv_at hl 0 rfl) ?_
  refine g_getJ hx hb hts inlX11 hown hK hP 130 ct_130 rfl 40 (by decide) (hts _ wm_8_6) rfl dX11_findBelow_4 ?_
  refine lv_lneg hx hb dX11_findBelow_7 ?_
  refine lv_aload_n hx hb dX11_findBelow_8 rfl (lv_at hl 0 rfl) ?_
  refine g_getJ hx hb hts inlX11 hown hK hP 130 ct_130 rfl 41 (by decide) (hts _ wm_8_7) rfl dX11_findBelow_9 ?_
  obtain ⟨q, hq, hf⟩ := bd hf
  refine gcV_v (k := 2) (o := 130) (As := [.long 1, .long 1, .long (-(st.2 130 40)), .long (st.2 130 41)]) (rest := []) hx hb hml hown hts hK hSt hP hS hl.1 (goodV wm_37_1 wm_37_2 wm_37_3 wm_1_5 wm_37_4) okX11_adds ct_130 rfl rfl (Nat.le_of_ble_eq_true rfl) (Nat.le_of_ble_eq_true rfl) rfl rfl (Nat.le_of_ble_eq_true rfl) dX11_findBelow_12 (kX11_adds l D G ad had n  1 1 (-(st.2 130 40)) (st.2 130 41) st q hq) (fun H locs hP hS => ?_)
  exact wX11_findBelow_s15 C n q.2 res hf H locs ls (lv_sub hl [0] rfl) hP hS
def fX11_findBelow (n : Nat)  (a1 : Int32) (st : St) : Option (Unit × St) := fX11_findBelow_s0 n st
theorem okX11_findBelow : okY yX11_findBelow RX11 1 := by unfold okY; decide +kernel
end
set_option maxRecDepth 100000 in
theorem kX11_findBelow (l : Launch) (D : va_G) (G : G3) (ad : Nat → Nat) (had : Adr ad) (n : Nat)   (a1 : Int32) (st : St) (res : (Unit × St)) (hf : fX11_findBelow n  a1 st = some res) {sz : Nat} : CtV l yX11_findBelow (wsU yX11_findBelow cX11_findBelow 10 none) (rmK 3) D G ad sz [.ref (ad 130), .int a1] st res := by
  refine Met.ofW (cc := cX11_findBelow) (maxL := 10) (ret := none) (by decide) rfl ?_
  intro p e s m args below meth c s₁ B hml hv
  obtain ⟨rfl, hsz, hP, hK, hSt⟩ := hv
  have hts := atoms_spec (ws := wsU yX11_findBelow cX11_findBelow 10 none) B.pre
  have C : Cx p s m _ meth c cX11_findBelow 10 wsL_law RX11 none D G ad := ⟨B.exec, B.bytes, hml, findClass_of_methodNamed B.named, fun w h => hts w (List.mem_cons_of_mem _ h), B.returns, B.notSynchronized, hK, had, hSt⟩
  subst hsz
  have hl := lv_entry ([.ref (ad 130), .int a1]) (n := 10) (Nat.le_of_ble_eq_true rfl)
  rw [lg_entry_eq]
  generalize (lg_sl ([.ref (ad 130), .int a1]) ++ List.replicate (10 - (lg_sl ([.ref (ad 130), .int a1])).length) Slot.unset).toArray = ls at hl ⊢
  exact wX11_findBelow_s0 C n     st res hf s.heap [] ls (lv_sub hl [0] rfl) hP va_S.rf
section
variable {p : Program} {l : Launch} {e : Env} {s : State} {m : MethodId} {args : Array Value} {below : List Frame} {meth : Method} {c : Code} {D : va_G} {G : G3} {ad : Nat → Nat}
def fX11_pole_s32 (n : Nat)    (st : St) : Option (Int64 × St) := some ((-9223372036854775808), st)
set_option maxHeartbeats 4000000 in
set_option maxRecDepth 100000 in
theorem wX11_pole_s32 (C : Cx p s m args meth c cX11_pole 9 wsL_law RX11 (some .long) D G ad) (n : Nat)      (st : St) (res : (Int64 × St))  (hf : fX11_pole_s32 n    st = some res) : At p l e (rmK 4) s m args below meth c D G ad (MQJ D G ad below args s res) 9 st [] 32 [] := by
  obtain ⟨hx, hb, hml, hown, hts, hr, hlk, hK, had, hSt⟩ := id C
  intro H locs ls hl hP hS
  unfold fX11_pole_s32 at hf
  refine lv_ldc2 hx hb hown (hts _ wm_14_15) dX11_pole_32 ?_
  exact g_lret hx hb hr hlk hP hS dX11_pole_35 hf
def fX11_pole_s192 (n : Nat)   (k0 : Int64) (st : St) : Option (Int64 × St) := some (k0, st)
set_option maxHeartbeats 4000000 in
set_option maxRecDepth 100000 in
theorem wX11_pole_s192 (C : Cx p s m args meth c cX11_pole 9 wsL_law RX11 (some .long) D G ad) (n : Nat)   (k0 : Int64)   (st : St) (res : (Int64 × St))  (hf : fX11_pole_s192 n   k0 st = some res) : At p l e (rmK 4) s m args below meth c D G ad (MQJ D G ad below args s res) 9 st [] 192 [.long k0] := by
  obtain ⟨hx, hb, hml, hown, hts, hr, hlk, hK, had, hSt⟩ := id C
  intro H locs ls hl hP hS
  unfold fX11_pole_s192 at hf
  exact g_lret hx hb hr hlk hP hS dX11_pole_192 hf
def fX11_pole_s190 (n : Nat)   (v6 : Int64) (st : St) : Option (Int64 × St) := fX11_pole_s192 n v6 st
set_option maxHeartbeats 4000000 in
set_option maxRecDepth 100000 in
theorem wX11_pole_s190 (C : Cx p s m args meth c cX11_pole 9 wsL_law RX11 (some .long) D G ad) (n : Nat)   (v6 : Int64)   (st : St) (res : (Int64 × St))  (hf : fX11_pole_s190 n   v6 st = some res) : At p l e (rmK 4) s m args below meth c D G ad (MQJ D G ad below args s res) 9 st [(6, .long v6)] 190 [] := by
  obtain ⟨hx, hb, hml, hown, hts, hr, hlk, hK, had, hSt⟩ := id C
  intro H locs ls hl hP hS
  unfold fX11_pole_s190 at hf
  refine lv_lload hx hb dX11_pole_190 (lv_at hl 0 rfl) ?_
  exact wX11_pole_s192 C n v6 st res hf H locs ls (lv_sub hl [] rfl) hP hS
def fX11_pole_s185 (n : Nat)   (v4 : Int64) (st : St) : Option (Int64 × St) := fX11_pole_s192 n v4 st
set_option maxHeartbeats 4000000 in
set_option maxRecDepth 100000 in
theorem wX11_pole_s185 (C : Cx p s m args meth c cX11_pole 9 wsL_law RX11 (some .long) D G ad) (n : Nat)   (v4 : Int64)   (st : St) (res : (Int64 × St))  (hf : fX11_pole_s185 n   v4 st = some res) : At p l e (rmK 4) s m args below meth c D G ad (MQJ D G ad below args s res) 9 st [(4, .long v4)] 185 [] := by
  obtain ⟨hx, hb, hml, hown, hts, hr, hlk, hK, had, hSt⟩ := id C
  intro H locs ls hl hP hS
  unfold fX11_pole_s185 at hf
  refine lv_lload hx hb dX11_pole_185 (lv_at hl 0 rfl) ?_
  refine lv_goto (tgt := 192) hx hb dX11_pole_187 (by decide) ?_
  exact wX11_pole_s192 C n v4 st res hf H locs ls (lv_sub hl [] rfl) hP hS
def fX11_pole_s181 (n : Nat)   (v3 : Int32) (v4 : Int64) (v6 : Int64) (st : St) : Option (Int64 × St) := if v3 = 0 then fX11_pole_s185 n v4 st else fX11_pole_s190 n v6 st
set_option maxHeartbeats 4000000 in
set_option maxRecDepth 100000 in
theorem wX11_pole_s181 (C : Cx p s m args meth c cX11_pole 9 wsL_law RX11 (some .long) D G ad) (n : Nat)   (v3 : Int32) (v4 : Int64) (v6 : Int64)   (st : St) (res : (Int64 × St))  (hf : fX11_pole_s181 n   v3 v4 v6 st = some res) : At p l e (rmK 4) s m args below meth c D G ad (MQJ D G ad below args s res) 9 st [(3, .int v3), (4, .long v4), (6, .long v6)] 181 [] := by
  obtain ⟨hx, hb, hml, hown, hts, hr, hlk, hK, had, hSt⟩ := id C
  intro H locs ls hl hP hS
  unfold fX11_pole_s181 at hf
  refine lv_iload_n hx hb dX11_pole_181 rfl (lv_at hl 0 rfl) ?_
  refine lv_if_ne (tgt := 190) hx hb dX11_pole_182 (by decide) (fun q => ?_) (fun q => ?_)
  · exact wX11_pole_s190 C n v6 st res (ie hf q) H locs ls (lv_sub hl [2] rfl) hP hS
  · exact wX11_pole_s185 C n v4 st res (it hf q) H locs ls (lv_sub hl [1] rfl) hP hS
def fX11_pole_s175 (n : Nat)    (st : St) : Option (Int64 × St) := fX11_pole_s192 n (-9223372036854775807) st
set_option maxHeartbeats 4000000 in
set_option maxRecDepth 100000 in
theorem wX11_pole_s175 (C : Cx p s m args meth c cX11_pole 9 wsL_law RX11 (some .long) D G ad) (n : Nat)      (st : St) (res : (Int64 × St))  (hf : fX11_pole_s175 n    st = some res) : At p l e (rmK 4) s m args below meth c D G ad (MQJ D G ad below args s res) 9 st [] 175 [] := by
  obtain ⟨hx, hb, hml, hown, hts, hr, hlk, hK, had, hSt⟩ := id C
  intro H locs ls hl hP hS
  unfold fX11_pole_s175 at hf
  refine lv_ldc2 hx hb hown (hts _ wm_34_7) dX11_pole_175 ?_
  refine lv_goto (tgt := 192) hx hb dX11_pole_178 (by decide) ?_
  exact wX11_pole_s192 C n (-9223372036854775807) st res hf H locs ls (lv_sub hl [] rfl) hP hS
def fX11_pole_s168 (n : Nat)   (v3 : Int32) (v4 : Int64) (v6 : Int64) (st : St) : Option (Int64 × St) := if (st.1 130 47) = 0 then fX11_pole_s181 n v3 v4 v6 st else fX11_pole_s175 n st
set_option maxHeartbeats 4000000 in
set_option maxRecDepth 100000 in
theorem wX11_pole_s168 (C : Cx p s m args meth c cX11_pole 9 wsL_law RX11 (some .long) D G ad) (n : Nat)   (v3 : Int32) (v4 : Int64) (v6 : Int64)   (st : St) (res : (Int64 × St))  (hf : fX11_pole_s168 n   v3 v4 v6 st = some res) : At p l e (rmK 4) s m args below meth c D G ad (MQJ D G ad below args s res) 9 st [(0, .ref (ad 130)), (3, .int v3), (4, .long v4), (6, .long v6)] 168 [] := by
  obtain ⟨hx, hb, hml, hown, hts, hr, hlk, hK, had, hSt⟩ := id C
  intro H locs ls hl hP hS
  unfold fX11_pole_s168 at hf
  refine lv_aload_n hx hb dX11_pole_168 rfl (lv_at hl 0 rfl) ?_
  refine g_getI hx hb hts inlX11 hown hK hP 130 ct_130 rfl 47 (by decide) (hts _ wm_36_14) rfl dX11_pole_169 ?_
  refine lv_if_eq (tgt := 181) hx hb dX11_pole_172 (by decide) (fun q => ?_) (fun q => ?_)
  · exact wX11_pole_s181 C n v3 v4 v6 st res (it hf q) H locs ls (lv_sub hl [1, 2, 3] rfl) hP hS
  · exact wX11_pole_s175 C n st res (ie hf q) H locs ls (lv_sub hl [] rfl) hP hS
def fX11_pole_s150 (n : Nat) (K85 : Int32 → Int32 → Int64 → Int64 → Int32 → St → Option (Int64 × St))  (v2 : Int32) (v3 : Int32) (v8 : Int32) (st : St) : Option (Int64 × St) := K85 v2 v3 (st.2 130 45) (st.2 130 46) (v8 + 1) st
set_option maxHeartbeats 4000000 in
set_option maxRecDepth 100000 in
theorem wX11_pole_s150 (C : Cx p s m args meth c cX11_pole 9 wsL_law RX11 (some .long) D G ad) (n : Nat) (K85 : Int32 → Int32 → Int64 → Int64 → Int32 → St → Option (Int64 × St))  (v2 : Int32) (v3 : Int32) (v8 : Int32)   (st : St) (res : (Int64 × St)) (hK85 : ∀ (v2 : Int32) (v3 : Int32) (v4 : Int64) (v6 : Int64) (v8 : Int32) (st : St), K85 v2 v3 v4 v6 v8 st = some res → At p l e (rmK 4) s m args below meth c D G ad (MQJ D G ad below args s res) 9 st [(0, .ref (ad 130)), (2, .int v2), (3, .int v3), (4, .long v4), (6, .long v6), (8, .int v8)] 85 []) (hf : fX11_pole_s150 n K85  v2 v3 v8 st = some res) : At p l e (rmK 4) s m args below meth c D G ad (MQJ D G ad below args s res) 9 st [(0, .ref (ad 130)), (2, .int v2), (3, .int v3), (8, .int v8)] 150 [] := by
  obtain ⟨hx, hb, hml, hown, hts, hr, hlk, hK, had, hSt⟩ := id C
  intro H locs ls hl hP hS
  unfold fX11_pole_s150 at hf
  refine lv_aload_n hx hb dX11_pole_150 rfl (lv_at hl 0 rfl) ?_
  refine g_getJ hx hb hts inlX11 hown hK hP 130 ct_130 rfl 45 (by decide) (hts _ wm_36_23) rfl dX11_pole_151 ?_
  refine lv_lstore (lv' := [(4, .long (st.2 130 45)), (0, .ref (ad 130)), (2, .int v2), (3, .int v3), (8, .int v8)]) hx hb dX11_pole_154 hl (by decide) rfl (fun ls hl => ?_)
  refine lv_aload_n hx hb dX11_pole_156 rfl (lv_at hl 1 rfl) ?_
  refine g_getJ hx hb hts inlX11 hown hK hP 130 ct_130 rfl 46 (by decide) (hts _ wm_37_0) rfl dX11_pole_157 ?_
  refine lv_lstore (lv' := [(6, .long (st.2 130 46)), (4, .long (st.2 130 45)), (0, .ref (ad 130)), (2, .int v2), (3, .int v3), (8, .int v8)]) hx hb dX11_pole_160 hl (by decide) rfl (fun ls hl => ?_)
  refine lv_iinc (v := v8 + 1) (lv' := [(8, .int (v8 + 1)), (6, .long (st.2 130 46)), (4, .long (st.2 130 45)), (0, .ref (ad 130)), (2, .int v2), (3, .int v3)]) hx hb dX11_pole_162 hl (k := 5) rfl rfl (by decide) rfl (fun ls hl => ?_)
  refine lv_goto (tgt := 85) hx hb dX11_pole_165 (by decide) ?_
  exact hK85 v2 v3 (st.2 130 45) (st.2 130 46) (v8 + 1)  st hf H locs ls (lv_sub hl [3, 4, 5, 2, 1, 0] rfl) hP hS
def fX11_pole_s134 (n : Nat) (K85 : Int32 → Int32 → Int64 → Int64 → Int32 → St → Option (Int64 × St))  (v2 : Int32) (v3 : Int32) (v4 : Int64) (v6 : Int64) (v8 : Int32) (st : St) : Option (Int64 × St) := (fX11_adds n v4 v6 (st.2 130 45) (st.2 130 46) st).bind (fun q => fX11_pole_s150 n K85 v2 v3 v8 q.2)
set_option maxHeartbeats 4000000 in
set_option maxRecDepth 100000 in
theorem wX11_pole_s134 (C : Cx p s m args meth c cX11_pole 9 wsL_law RX11 (some .long) D G ad) (n : Nat) (K85 : Int32 → Int32 → Int64 → Int64 → Int32 → St → Option (Int64 × St))  (v2 : Int32) (v3 : Int32) (v4 : Int64) (v6 : Int64) (v8 : Int32)   (st : St) (res : (Int64 × St)) (hK85 : ∀ (v2 : Int32) (v3 : Int32) (v4 : Int64) (v6 : Int64) (v8 : Int32) (st : St), K85 v2 v3 v4 v6 v8 st = some res → At p l e (rmK 4) s m args below meth c D G ad (MQJ D G ad below args s res) 9 st [(0, .ref (ad 130)), (2, .int v2), (3, .int v3), (4, .long v4), (6, .long v6), (8, .int v8)] 85 []) (hf : fX11_pole_s134 n K85  v2 v3 v4 v6 v8 st = some res) : At p l e (rmK 4) s m args below meth c D G ad (MQJ D G ad below args s res) 9 st [(0, .ref (ad 130)), (2, .int v2), (3, .int v3), (4, .long v4), (6, .long v6), (8, .int v8)] 134 [] := by
  obtain ⟨hx, hb, hml, hown, hts, hr, hlk, hK, had, hSt⟩ := id C
  intro H locs ls hl hP hS
  unfold fX11_pole_s134 at hf
  refine lv_aload_n hx hb dX11_pole_134 rfl (lv_at hl 0 rfl) ?_
  refine lv_lload hx hb dX11_pole_135 (lv_at hl 3 rfl) ?_
  refine lv_lload hx hb dX11_pole_137 (lv_at hl 4 rfl) ?_
  refine lv_aload_n hx hb dX11_pole_139 rfl (lv_at hl 0 rfl) ?_
  refine g_getJ hx hb hts inlX11 hown hK hP 130 ct_130 rfl 45 (by decide) (hts _ wm_36_23) rfl dX11_pole_140 ?_
  refine lv_aload_n hx hb dX11_pole_143 rfl (lv_at hl 0 rfl) ?_
  refine g_getJ hx hb hts inlX11 hown hK hP 130 ct_130 rfl 46 (by decide) (hts _ wm_37_0) rfl dX11_pole_144 ?_
  obtain ⟨q, hq, hf⟩ := bd hf
  refine gcV_v (k := 2) (o := 130) (As := [.long v4, .long v6, .long (st.2 130 45), .long (st.2 130 46)]) (rest := []) hx hb hml hown hts hK hSt hP hS hl.1 (goodV wm_37_1 wm_37_2 wm_37_3 wm_1_5 wm_37_4) okX11_adds ct_130 rfl rfl (Nat.le_of_ble_eq_true rfl) (Nat.le_of_ble_eq_true rfl) rfl rfl (Nat.le_of_ble_eq_true rfl) dX11_pole_147 (kX11_adds l D G ad had n  v4 v6 (st.2 130 45) (st.2 130 46) st q hq) (fun H locs hP hS => ?_)
  exact wX11_pole_s150 C n K85 v2 v3 v8 q.2 res hK85 hf H locs ls (lv_sub hl [0, 1, 2, 5] rfl) hP hS
def fX11_pole_s98 (n : Nat) (K85 : Int32 → Int32 → Int64 → Int64 → Int32 → St → Option (Int64 × St))  (v2 : Int32) (v3 : Int32) (v4 : Int64) (v6 : Int64) (v8 : Int32) (st : St) : Option (Int64 × St) := if inb v8 31 = true then (if inb v8 31 = true then (if inb (v2 - v8) 3 = true then (if inb (v2 - v8) 3 = true then ((fX11_multiplies n (st.2 159 v8.toNatClampNeg) (st.2 160 v8.toNatClampNeg) (st.2 161 (v2 - v8).toNatClampNeg) (st.2 162 (v2 - v8).toNatClampNeg) st).bind (fun q => fX11_pole_s134 n K85 v2 v3 v4 v6 v8 q.2)) else none) else none) else none) else none
set_option maxHeartbeats 4000000 in
set_option maxRecDepth 100000 in
theorem wX11_pole_s98 (C : Cx p s m args meth c cX11_pole 9 wsL_law RX11 (some .long) D G ad) (n : Nat) (K85 : Int32 → Int32 → Int64 → Int64 → Int32 → St → Option (Int64 × St))  (v2 : Int32) (v3 : Int32) (v4 : Int64) (v6 : Int64) (v8 : Int32)   (st : St) (res : (Int64 × St)) (hK85 : ∀ (v2 : Int32) (v3 : Int32) (v4 : Int64) (v6 : Int64) (v8 : Int32) (st : St), K85 v2 v3 v4 v6 v8 st = some res → At p l e (rmK 4) s m args below meth c D G ad (MQJ D G ad below args s res) 9 st [(0, .ref (ad 130)), (2, .int v2), (3, .int v3), (4, .long v4), (6, .long v6), (8, .int v8)] 85 []) (hf : fX11_pole_s98 n K85  v2 v3 v4 v6 v8 st = some res) : At p l e (rmK 4) s m args below meth c D G ad (MQJ D G ad below args s res) 9 st [(0, .ref (ad 130)), (2, .int v2), (3, .int v3), (4, .long v4), (6, .long v6), (8, .int v8)] 98 [] := by
  obtain ⟨hx, hb, hml, hown, hts, hr, hlk, hK, had, hSt⟩ := id C
  intro H locs ls hl hP hS
  unfold fX11_pole_s98 at hf
  refine lv_aload_n hx hb dX11_pole_98 rfl (lv_at hl 0 rfl) ?_
  refine lv_aload_n hx hb dX11_pole_99 rfl (lv_at hl 0 rfl) ?_
  refine g_getR hx hb hts inlX11 hown hK hP 130 ct_130 rfl 48 (by decide) (hts _ wm_8_11) rfl dX11_pole_100 ?_
  refine lv_iload hx hb dX11_pole_103 (lv_at hl 5 rfl) ?_
  obtain ⟨g1, hf⟩ := gd hf
  refine g_lald hx hb hK hP 159 ct_159 g1 dX11_pole_105 ?_
  refine lv_aload_n hx hb dX11_pole_106 rfl (lv_at hl 0 rfl) ?_
  refine g_getR hx hb hts inlX11 hown hK hP 130 ct_130 rfl 49 (by decide) (hts _ wm_8_12) rfl dX11_pole_107 ?_
  refine lv_iload hx hb dX11_pole_110 (lv_at hl 5 rfl) ?_
  obtain ⟨g2, hf⟩ := gd hf
  refine g_lald hx hb hK hP 160 ct_160 g2 dX11_pole_112 ?_
  refine lv_aload_n hx hb dX11_pole_113 rfl (lv_at hl 0 rfl) ?_
  refine g_getR hx hb hts inlX11 hown hK hP 130 ct_130 rfl 54 (by decide) (hts _ wm_8_13) rfl dX11_pole_114 ?_
  refine lv_iload_n hx hb dX11_pole_117 rfl (lv_at hl 1 rfl) ?_
  refine lv_iload hx hb dX11_pole_118 (lv_at hl 5 rfl) ?_
  refine lv_isub hx hb dX11_pole_120 ?_
  obtain ⟨g3, hf⟩ := gd hf
  refine g_lald hx hb hK hP 161 ct_161 g3 dX11_pole_121 ?_
  refine lv_aload_n hx hb dX11_pole_122 rfl (lv_at hl 0 rfl) ?_
  refine g_getR hx hb hts inlX11 hown hK hP 130 ct_130 rfl 55 (by decide) (hts _ wm_8_14) rfl dX11_pole_123 ?_
  refine lv_iload_n hx hb dX11_pole_126 rfl (lv_at hl 1 rfl) ?_
  refine lv_iload hx hb dX11_pole_127 (lv_at hl 5 rfl) ?_
  refine lv_isub hx hb dX11_pole_129 ?_
  obtain ⟨g4, hf⟩ := gd hf
  refine g_lald hx hb hK hP 162 ct_162 g4 dX11_pole_130 ?_
  obtain ⟨q, hq, hf⟩ := bd hf
  refine gcV_v (k := 2) (o := 130) (As := [.long (st.2 159 v8.toNatClampNeg), .long (st.2 160 v8.toNatClampNeg), .long (st.2 161 (v2 - v8).toNatClampNeg), .long (st.2 162 (v2 - v8).toNatClampNeg)]) (rest := []) hx hb hml hown hts hK hSt hP hS hl.1 (goodV wm_37_9 wm_37_10 wm_37_11 wm_1_5 wm_37_12) okX11_multiplies ct_130 rfl rfl (Nat.le_of_ble_eq_true rfl) (Nat.le_of_ble_eq_true rfl) rfl rfl (Nat.le_of_ble_eq_true rfl) dX11_pole_131 (kX11_multiplies l D G ad had n  (st.2 159 v8.toNatClampNeg) (st.2 160 v8.toNatClampNeg) (st.2 161 (v2 - v8).toNatClampNeg) (st.2 162 (v2 - v8).toNatClampNeg) st q hq) (fun H locs hP hS => ?_)
  exact wX11_pole_s134 C n K85 v2 v3 v4 v6 v8 q.2 res hK85 hf H locs ls (lv_sub hl [0, 1, 2, 3, 4, 5] rfl) hP hS
def fX11_pole_s91 (n : Nat) (K85 : Int32 → Int32 → Int64 → Int64 → Int32 → St → Option (Int64 × St))  (v2 : Int32) (v3 : Int32) (v4 : Int64) (v6 : Int64) (v8 : Int32) (st : St) : Option (Int64 × St) := if (st.1 130 47) = 0 then fX11_pole_s98 n K85 v2 v3 v4 v6 v8 st else fX11_pole_s168 n v3 v4 v6 st
set_option maxHeartbeats 4000000 in
set_option maxRecDepth 100000 in
theorem wX11_pole_s91 (C : Cx p s m args meth c cX11_pole 9 wsL_law RX11 (some .long) D G ad) (n : Nat) (K85 : Int32 → Int32 → Int64 → Int64 → Int32 → St → Option (Int64 × St))  (v2 : Int32) (v3 : Int32) (v4 : Int64) (v6 : Int64) (v8 : Int32)   (st : St) (res : (Int64 × St)) (hK85 : ∀ (v2 : Int32) (v3 : Int32) (v4 : Int64) (v6 : Int64) (v8 : Int32) (st : St), K85 v2 v3 v4 v6 v8 st = some res → At p l e (rmK 4) s m args below meth c D G ad (MQJ D G ad below args s res) 9 st [(0, .ref (ad 130)), (2, .int v2), (3, .int v3), (4, .long v4), (6, .long v6), (8, .int v8)] 85 []) (hf : fX11_pole_s91 n K85  v2 v3 v4 v6 v8 st = some res) : At p l e (rmK 4) s m args below meth c D G ad (MQJ D G ad below args s res) 9 st [(0, .ref (ad 130)), (2, .int v2), (3, .int v3), (4, .long v4), (6, .long v6), (8, .int v8)] 91 [] := by
  obtain ⟨hx, hb, hml, hown, hts, hr, hlk, hK, had, hSt⟩ := id C
  intro H locs ls hl hP hS
  unfold fX11_pole_s91 at hf
  refine lv_aload_n hx hb dX11_pole_91 rfl (lv_at hl 0 rfl) ?_
  refine g_getI hx hb hts inlX11 hown hK hP 130 ct_130 rfl 47 (by decide) (hts _ wm_36_14) rfl dX11_pole_92 ?_
  refine lv_if_ne (tgt := 168) hx hb dX11_pole_95 (by decide) (fun q => ?_) (fun q => ?_)
  · exact wX11_pole_s168 C n v3 v4 v6 st res (ie hf q) H locs ls (lv_sub hl [0, 2, 3, 4] rfl) hP hS
  · exact wX11_pole_s98 C n K85 v2 v3 v4 v6 v8 st res hK85 (it hf q) H locs ls (lv_sub hl [0, 1, 2, 3, 4, 5] rfl) hP hS
def fX11_pole_s85 (n : Nat) (K85 : Int32 → Int32 → Int64 → Int64 → Int32 → St → Option (Int64 × St))  (v2 : Int32) (v3 : Int32) (v4 : Int64) (v6 : Int64) (v8 : Int32) (st : St) : Option (Int64 × St) := if v2 < v8 then fX11_pole_s168 n v3 v4 v6 st else fX11_pole_s91 n K85 v2 v3 v4 v6 v8 st
set_option maxHeartbeats 4000000 in
set_option maxRecDepth 100000 in
theorem wX11_pole_s85 (C : Cx p s m args meth c cX11_pole 9 wsL_law RX11 (some .long) D G ad) (n : Nat) (K85 : Int32 → Int32 → Int64 → Int64 → Int32 → St → Option (Int64 × St))  (v2 : Int32) (v3 : Int32) (v4 : Int64) (v6 : Int64) (v8 : Int32)   (st : St) (res : (Int64 × St)) (hK85 : ∀ (v2 : Int32) (v3 : Int32) (v4 : Int64) (v6 : Int64) (v8 : Int32) (st : St), K85 v2 v3 v4 v6 v8 st = some res → At p l e (rmK 4) s m args below meth c D G ad (MQJ D G ad below args s res) 9 st [(0, .ref (ad 130)), (2, .int v2), (3, .int v3), (4, .long v4), (6, .long v6), (8, .int v8)] 85 []) (hf : fX11_pole_s85 n K85  v2 v3 v4 v6 v8 st = some res) : At p l e (rmK 4) s m args below meth c D G ad (MQJ D G ad below args s res) 9 st [(0, .ref (ad 130)), (2, .int v2), (3, .int v3), (4, .long v4), (6, .long v6), (8, .int v8)] 85 [] := by
  obtain ⟨hx, hb, hml, hown, hts, hr, hlk, hK, had, hSt⟩ := id C
  intro H locs ls hl hP hS
  unfold fX11_pole_s85 at hf
  refine lv_iload hx hb dX11_pole_85 (lv_at hl 5 rfl) ?_
  refine lv_iload_n hx hb dX11_pole_87 rfl (lv_at hl 1 rfl) ?_
  refine lv_icmp_gt (tgt := 168) hx hb dX11_pole_88 (by decide) (fun q => ?_) (fun q => ?_)
  · exact wX11_pole_s168 C n v3 v4 v6 st res (it hf q) H locs ls (lv_sub hl [0, 2, 3, 4] rfl) hP hS
  · exact wX11_pole_s91 C n K85 v2 v3 v4 v6 v8 st res hK85 (ie hf q) H locs ls (lv_sub hl [0, 1, 2, 3, 4, 5] rfl) hP hS
def fX11_pole_L85 (n : Nat)   : Nat → Int32 → Int32 → Int64 → Int64 → Int32 → St → Option (Int64 × St)
  | 0, _, _, _, _, _, _ => none
  | k + 1, v2, v3, v4, v6, v8, st => fX11_pole_s85 n (fX11_pole_L85 n k)  v2 v3 v4 v6 v8 st
theorem wX11_pole_L85 (C : Cx p s m args meth c cX11_pole 9 wsL_law RX11 (some .long) D G ad) (n : Nat)    (res : (Int64 × St))  : ∀ (k : Nat) (v2 : Int32) (v3 : Int32) (v4 : Int64) (v6 : Int64) (v8 : Int32)  (st : St), fX11_pole_L85 n k v2 v3 v4 v6 v8 st = some res → At p l e (rmK 4) s m args below meth c D G ad (MQJ D G ad below args s res) 9 st [(0, .ref (ad 130)), (2, .int v2), (3, .int v3), (4, .long v4), (6, .long v6), (8, .int v8)] 85 [] := by
  intro k
  induction k with
  | zero => intro v2 v3 v4 v6 v8  st h; exact absurd h (by intro q; cases q)
  | succ k ih => intro v2 v3 v4 v6 v8  st h; exact wX11_pole_s85 C n (fX11_pole_L85 n k)  v2 v3 v4 v6 v8   st res ih h
def fX11_pole_s76 (n : Nat)   (v2 : Int32) (v3 : Int32) (st : St) : Option (Int64 × St) := fX11_pole_L85 n n v2 v3 0 1 0 st
set_option maxHeartbeats 4000000 in
set_option maxRecDepth 100000 in
theorem wX11_pole_s76 (C : Cx p s m args meth c cX11_pole 9 wsL_law RX11 (some .long) D G ad) (n : Nat)   (v2 : Int32) (v3 : Int32)   (st : St) (res : (Int64 × St))  (hf : fX11_pole_s76 n   v2 v3 st = some res) : At p l e (rmK 4) s m args below meth c D G ad (MQJ D G ad below args s res) 9 st [(0, .ref (ad 130)), (2, .int v2), (3, .int v3)] 76 [] := by
  obtain ⟨hx, hb, hml, hown, hts, hr, hlk, hK, had, hSt⟩ := id C
  intro H locs ls hl hP hS
  unfold fX11_pole_s76 at hf
  refine lv_lconst (v := 0) hx hb dX11_pole_76 (by decide) ?_
  refine lv_lstore (lv' := [(4, .long 0), (0, .ref (ad 130)), (2, .int v2), (3, .int v3)]) hx hb dX11_pole_77 hl (by decide) rfl (fun ls hl => ?_)
  refine lv_lconst (v := 1) hx hb dX11_pole_79 (by decide) ?_
  refine lv_lstore (lv' := [(6, .long 1), (4, .long 0), (0, .ref (ad 130)), (2, .int v2), (3, .int v3)]) hx hb dX11_pole_80 hl (by decide) rfl (fun ls hl => ?_)
  refine lv_iconst (v := 0) hx hb dX11_pole_82 (by decide) ?_
  refine lv_istore (lv' := [(8, .int 0), (6, .long 1), (4, .long 0), (0, .ref (ad 130)), (2, .int v2), (3, .int v3)]) hx hb dX11_pole_83 hl (by decide) rfl (fun ls hl => ?_)
  exact wX11_pole_L85 C n res n v2 v3 0 1 0 st hf H locs ls (lv_sub hl [3, 4, 5, 2, 1, 0] rfl) hP hS
def fX11_pole_s71 (n : Nat)   (v2 : Int32) (v3 : Int32) (st : St) : Option (Int64 × St) := (fX11_findEchoes n v2 st).bind (fun q => fX11_pole_s76 n v2 v3 q.2)
set_option maxHeartbeats 4000000 in
set_option maxRecDepth 100000 in
theorem wX11_pole_s71 (C : Cx p s m args meth c cX11_pole 9 wsL_law RX11 (some .long) D G ad) (n : Nat)   (v2 : Int32) (v3 : Int32)   (st : St) (res : (Int64 × St))  (hf : fX11_pole_s71 n   v2 v3 st = some res) : At p l e (rmK 4) s m args below meth c D G ad (MQJ D G ad below args s res) 9 st [(0, .ref (ad 130)), (2, .int v2), (3, .int v3)] 71 [] := by
  obtain ⟨hx, hb, hml, hown, hts, hr, hlk, hK, had, hSt⟩ := id C
  intro H locs ls hl hP hS
  unfold fX11_pole_s71 at hf
  refine lv_aload_n hx hb dX11_pole_71 rfl (lv_at hl 0 rfl) ?_
  refine lv_iload_n hx hb dX11_pole_72 rfl (lv_at hl 1 rfl) ?_
  obtain ⟨q, hq, hf⟩ := bd hf
  refine gcV_v (k := 3) (o := 130) (As := [.int v2]) (rest := []) hx hb hml hown hts hK hSt hP hS hl.1 (goodV wm_36_15 wm_36_16 wm_36_17 wm_1_5 wm_36_18) okX11_findEchoes ct_130 rfl rfl (Nat.le_of_ble_eq_true rfl) (Nat.le_of_ble_eq_true rfl) rfl rfl (Nat.le_of_ble_eq_true rfl) dX11_pole_73 (kX11_findEchoes l D G ad had n  v2 st q hq) (fun H locs hP hS => ?_)
  exact wX11_pole_s76 C n v2 v3 q.2 res hf H locs ls (lv_sub hl [0, 1, 2] rfl) hP hS
def fX11_pole_s70 (n : Nat)   (k0 : Int64) (st : St) : Option (Int64 × St) := some (k0, st)
set_option maxHeartbeats 4000000 in
set_option maxRecDepth 100000 in
theorem wX11_pole_s70 (C : Cx p s m args meth c cX11_pole 9 wsL_law RX11 (some .long) D G ad) (n : Nat)   (k0 : Int64)   (st : St) (res : (Int64 × St))  (hf : fX11_pole_s70 n   k0 st = some res) : At p l e (rmK 4) s m args below meth c D G ad (MQJ D G ad below args s res) 9 st [] 70 [.long k0] := by
  obtain ⟨hx, hb, hml, hown, hts, hr, hlk, hK, had, hSt⟩ := id C
  intro H locs ls hl hP hS
  unfold fX11_pole_s70 at hf
  exact g_lret hx hb hr hlk hP hS dX11_pole_70 hf
def fX11_pole_s64 (n : Nat)   (v2 : Int32) (st : St) : Option (Int64 × St) := if inb v2 3 = true then (fX11_pole_s70 n (st.2 162 v2.toNatClampNeg) st) else none
set_option maxHeartbeats 4000000 in
set_option maxRecDepth 100000 in
theorem wX11_pole_s64 (C : Cx p s m args meth c cX11_pole 9 wsL_law RX11 (some .long) D G ad) (n : Nat)   (v2 : Int32)   (st : St) (res : (Int64 × St))  (hf : fX11_pole_s64 n   v2 st = some res) : At p l e (rmK 4) s m args below meth c D G ad (MQJ D G ad below args s res) 9 st [(0, .ref (ad 130)), (2, .int v2)] 64 [] := by
  obtain ⟨hx, hb, hml, hown, hts, hr, hlk, hK, had, hSt⟩ := id C
  intro H locs ls hl hP hS
  unfold fX11_pole_s64 at hf
  refine lv_aload_n hx hb dX11_pole_64 rfl (lv_at hl 0 rfl) ?_
  refine g_getR hx hb hts inlX11 hown hK hP 130 ct_130 rfl 55 (by decide) (hts _ wm_8_14) rfl dX11_pole_65 ?_
  refine lv_iload_n hx hb dX11_pole_68 rfl (lv_at hl 1 rfl) ?_
  obtain ⟨g1, hf⟩ := gd hf
  refine g_lald hx hb hK hP 162 ct_162 g1 dX11_pole_69 ?_
  exact wX11_pole_s70 C n (st.2 162 v2.toNatClampNeg) st res hf H locs ls (lv_sub hl [] rfl) hP hS
def fX11_pole_s55 (n : Nat)   (v2 : Int32) (st : St) : Option (Int64 × St) := if inb v2 3 = true then (fX11_pole_s70 n (st.2 161 v2.toNatClampNeg) st) else none
set_option maxHeartbeats 4000000 in
set_option maxRecDepth 100000 in
theorem wX11_pole_s55 (C : Cx p s m args meth c cX11_pole 9 wsL_law RX11 (some .long) D G ad) (n : Nat)   (v2 : Int32)   (st : St) (res : (Int64 × St))  (hf : fX11_pole_s55 n   v2 st = some res) : At p l e (rmK 4) s m args below meth c D G ad (MQJ D G ad below args s res) 9 st [(0, .ref (ad 130)), (2, .int v2)] 55 [] := by
  obtain ⟨hx, hb, hml, hown, hts, hr, hlk, hK, had, hSt⟩ := id C
  intro H locs ls hl hP hS
  unfold fX11_pole_s55 at hf
  refine lv_aload_n hx hb dX11_pole_55 rfl (lv_at hl 0 rfl) ?_
  refine g_getR hx hb hts inlX11 hown hK hP 130 ct_130 rfl 54 (by decide) (hts _ wm_8_13) rfl dX11_pole_56 ?_
  refine lv_iload_n hx hb dX11_pole_59 rfl (lv_at hl 1 rfl) ?_
  obtain ⟨g1, hf⟩ := gd hf
  refine g_lald hx hb hK hP 161 ct_161 g1 dX11_pole_60 ?_
  refine lv_goto (tgt := 70) hx hb dX11_pole_61 (by decide) ?_
  exact wX11_pole_s70 C n (st.2 161 v2.toNatClampNeg) st res hf H locs ls (lv_sub hl [] rfl) hP hS
def fX11_pole_s51 (n : Nat)   (v2 : Int32) (v3 : Int32) (st : St) : Option (Int64 × St) := if v3 = 0 then fX11_pole_s55 n v2 st else fX11_pole_s64 n v2 st
set_option maxHeartbeats 4000000 in
set_option maxRecDepth 100000 in
theorem wX11_pole_s51 (C : Cx p s m args meth c cX11_pole 9 wsL_law RX11 (some .long) D G ad) (n : Nat)   (v2 : Int32) (v3 : Int32)   (st : St) (res : (Int64 × St))  (hf : fX11_pole_s51 n   v2 v3 st = some res) : At p l e (rmK 4) s m args below meth c D G ad (MQJ D G ad below args s res) 9 st [(0, .ref (ad 130)), (2, .int v2), (3, .int v3)] 51 [] := by
  obtain ⟨hx, hb, hml, hown, hts, hr, hlk, hK, had, hSt⟩ := id C
  intro H locs ls hl hP hS
  unfold fX11_pole_s51 at hf
  refine lv_iload_n hx hb dX11_pole_51 rfl (lv_at hl 2 rfl) ?_
  refine lv_if_ne (tgt := 64) hx hb dX11_pole_52 (by decide) (fun q => ?_) (fun q => ?_)
  · exact wX11_pole_s64 C n v2 st res (ie hf q) H locs ls (lv_sub hl [0, 1] rfl) hP hS
  · exact wX11_pole_s55 C n v2 st res (it hf q) H locs ls (lv_sub hl [0, 1] rfl) hP hS
def fX11_pole_s46 (n : Nat)   (v1 : Int32) (v2 : Int32) (v3 : Int32) (st : St) : Option (Int64 × St) := if v1 = 1 then fX11_pole_s51 n v2 v3 st else fX11_pole_s71 n v2 v3 st
set_option maxHeartbeats 4000000 in
set_option maxRecDepth 100000 in
theorem wX11_pole_s46 (C : Cx p s m args meth c cX11_pole 9 wsL_law RX11 (some .long) D G ad) (n : Nat)   (v1 : Int32) (v2 : Int32) (v3 : Int32)   (st : St) (res : (Int64 × St))  (hf : fX11_pole_s46 n   v1 v2 v3 st = some res) : At p l e (rmK 4) s m args below meth c D G ad (MQJ D G ad below args s res) 9 st [(0, .ref (ad 130)), (1, .int v1), (2, .int v2), (3, .int v3)] 46 [] := by
  obtain ⟨hx, hb, hml, hown, hts, hr, hlk, hK, had, hSt⟩ := id C
  intro H locs ls hl hP hS
  unfold fX11_pole_s46 at hf
  refine lv_iload_n hx hb dX11_pole_46 rfl (lv_at hl 1 rfl) ?_
  refine lv_iconst (v := 1) hx hb dX11_pole_47 (by decide) ?_
  refine lv_icmp_ne (tgt := 71) hx hb dX11_pole_48 (by decide) (fun q => ?_) (fun q => ?_)
  · exact wX11_pole_s71 C n v2 v3 st res (ie hf q) H locs ls (lv_sub hl [0, 2, 3] rfl) hP hS
  · exact wX11_pole_s51 C n v2 v3 st res (it hf q) H locs ls (lv_sub hl [0, 2, 3] rfl) hP hS
def fX11_pole_s41 (n : Nat)   (v1 : Int32) (v2 : Int32) (v3 : Int32) (st : St) : Option (Int64 × St) := (fX11_findBelow n v2 st).bind (fun q => fX11_pole_s46 n v1 v2 v3 q.2)
set_option maxHeartbeats 4000000 in
set_option maxRecDepth 100000 in
theorem wX11_pole_s41 (C : Cx p s m args meth c cX11_pole 9 wsL_law RX11 (some .long) D G ad) (n : Nat)   (v1 : Int32) (v2 : Int32) (v3 : Int32)   (st : St) (res : (Int64 × St))  (hf : fX11_pole_s41 n   v1 v2 v3 st = some res) : At p l e (rmK 4) s m args below meth c D G ad (MQJ D G ad below args s res) 9 st [(0, .ref (ad 130)), (1, .int v1), (2, .int v2), (3, .int v3)] 41 [] := by
  obtain ⟨hx, hb, hml, hown, hts, hr, hlk, hK, had, hSt⟩ := id C
  intro H locs ls hl hP hS
  unfold fX11_pole_s41 at hf
  refine lv_aload_n hx hb dX11_pole_41 rfl (lv_at hl 0 rfl) ?_
  refine lv_iload_n hx hb dX11_pole_42 rfl (lv_at hl 2 rfl) ?_
  obtain ⟨q, hq, hf⟩ := bd hf
  refine gcV_v (k := 3) (o := 130) (As := [.int v2]) (rest := []) hx hb hml hown hts hK hSt hP hS hl.1 (goodV wm_38_10 wm_38_11 wm_38_12 wm_1_5 wm_38_13) okX11_findBelow ct_130 rfl rfl (Nat.le_of_ble_eq_true rfl) (Nat.le_of_ble_eq_true rfl) rfl rfl (Nat.le_of_ble_eq_true rfl) dX11_pole_43 (kX11_findBelow l D G ad had n  v2 st q hq) (fun H locs hP hS => ?_)
  exact wX11_pole_s46 C n v1 v2 v3 q.2 res hf H locs ls (lv_sub hl [0, 1, 2, 3] rfl) hP hS
def fX11_pole_s36 (n : Nat)   (v1 : Int32) (v2 : Int32) (v3 : Int32) (st : St) : Option (Int64 × St) := fX11_pole_s41 n v1 v2 v3 (setI st 130 47 0)
set_option maxHeartbeats 4000000 in
set_option maxRecDepth 100000 in
theorem wX11_pole_s36 (C : Cx p s m args meth c cX11_pole 9 wsL_law RX11 (some .long) D G ad) (n : Nat)   (v1 : Int32) (v2 : Int32) (v3 : Int32)   (st : St) (res : (Int64 × St))  (hf : fX11_pole_s36 n   v1 v2 v3 st = some res) : At p l e (rmK 4) s m args below meth c D G ad (MQJ D G ad below args s res) 9 st [(0, .ref (ad 130)), (1, .int v1), (2, .int v2), (3, .int v3)] 36 [] := by
  obtain ⟨hx, hb, hml, hown, hts, hr, hlk, hK, had, hSt⟩ := id C
  intro H locs ls hl hP hS
  unfold fX11_pole_s36 at hf
  refine lv_aload_n hx hb dX11_pole_36 rfl (lv_at hl 0 rfl) ?_
  refine lv_iconst (v := 0) hx hb dX11_pole_37 (by decide) ?_
  refine g_putI hx hb hts inlX11 tyX11_ok nmX11 hown hK had hP hS 130 ct_130 rfl 47 (by decide) (hts _ wm_36_14) rfl rfl rfl rfl rfl dX11_pole_38 (fun H locs hP hS => ?_)
  exact wX11_pole_s41 C n v1 v2 v3 (setI st 130 47 0) res hf H locs ls (lv_sub hl [0, 1, 2, 3] rfl) hP hS
def fX11_pole_s29 (n : Nat)   (v1 : Int32) (v2 : Int32) (v3 : Int32) (k0 : Int32) (st : St) : Option (Int64 × St) := if k0 = 0 then fX11_pole_s32 n st else fX11_pole_s36 n v1 v2 v3 st
set_option maxHeartbeats 4000000 in
set_option maxRecDepth 100000 in
theorem wX11_pole_s29 (C : Cx p s m args meth c cX11_pole 9 wsL_law RX11 (some .long) D G ad) (n : Nat)   (v1 : Int32) (v2 : Int32) (v3 : Int32) (k0 : Int32)   (st : St) (res : (Int64 × St))  (hf : fX11_pole_s29 n   v1 v2 v3 k0 st = some res) : At p l e (rmK 4) s m args below meth c D G ad (MQJ D G ad below args s res) 9 st [(0, .ref (ad 130)), (1, .int v1), (2, .int v2), (3, .int v3)] 29 [.int k0] := by
  obtain ⟨hx, hb, hml, hown, hts, hr, hlk, hK, had, hSt⟩ := id C
  intro H locs ls hl hP hS
  unfold fX11_pole_s29 at hf
  refine lv_if_ne (tgt := 36) hx hb dX11_pole_29 (by decide) (fun q => ?_) (fun q => ?_)
  · exact wX11_pole_s36 C n v1 v2 v3 st res (ie hf q) H locs ls (lv_sub hl [0, 1, 2, 3] rfl) hP hS
  · exact wX11_pole_s32 C n st res (it hf q) H locs ls (lv_sub hl [] rfl) hP hS
def fX11_pole_s22 (n : Nat)   (v1 : Int32) (v2 : Int32) (v3 : Int32) (st : St) : Option (Int64 × St) := (fX11_in n v3.toInt64 0 1 st).bind (fun q => fX11_pole_s29 n v1 v2 v3 q.1 q.2)
set_option maxHeartbeats 4000000 in
set_option maxRecDepth 100000 in
theorem wX11_pole_s22 (C : Cx p s m args meth c cX11_pole 9 wsL_law RX11 (some .long) D G ad) (n : Nat)   (v1 : Int32) (v2 : Int32) (v3 : Int32)   (st : St) (res : (Int64 × St))  (hf : fX11_pole_s22 n   v1 v2 v3 st = some res) : At p l e (rmK 4) s m args below meth c D G ad (MQJ D G ad below args s res) 9 st [(0, .ref (ad 130)), (1, .int v1), (2, .int v2), (3, .int v3)] 22 [] := by
  obtain ⟨hx, hb, hml, hown, hts, hr, hlk, hK, had, hSt⟩ := id C
  intro H locs ls hl hP hS
  unfold fX11_pole_s22 at hf
  refine lv_iload_n hx hb dX11_pole_22 rfl (lv_at hl 3 rfl) ?_
  refine lv_i2l hx hb dX11_pole_23 rfl ?_
  refine lv_lconst (v := 0) hx hb dX11_pole_24 (by decide) ?_
  refine lv_lconst (v := 1) hx hb dX11_pole_25 (by decide) ?_
  obtain ⟨q, hq, hf⟩ := bd hf
  refine gcS_i (k := 0) (As := [.long v3.toInt64, .long 0, .long 1]) (rest := []) hx hb hml hown hts hK hSt hP hS hl.1 (goodS wm_10_21 wm_10_22 wm_1_5 wm_10_23) okX11_in (Nat.le_of_ble_eq_true rfl) (Nat.le_of_ble_eq_true rfl) rfl rfl (Nat.le_of_ble_eq_true rfl) dX11_pole_26 (kX11_in l D G ad had n  v3.toInt64 0 1 st q hq) (fun H locs hP hS => ?_)
  exact wX11_pole_s29 C n v1 v2 v3 q.1 q.2 res hf H locs ls (lv_sub hl [0, 1, 2, 3] rfl) hP hS
def fX11_pole_s19 (n : Nat)   (v1 : Int32) (v2 : Int32) (v3 : Int32) (k0 : Int32) (st : St) : Option (Int64 × St) := if k0 = 0 then fX11_pole_s32 n st else fX11_pole_s22 n v1 v2 v3 st
set_option maxHeartbeats 4000000 in
set_option maxRecDepth 100000 in
theorem wX11_pole_s19 (C : Cx p s m args meth c cX11_pole 9 wsL_law RX11 (some .long) D G ad) (n : Nat)   (v1 : Int32) (v2 : Int32) (v3 : Int32) (k0 : Int32)   (st : St) (res : (Int64 × St))  (hf : fX11_pole_s19 n   v1 v2 v3 k0 st = some res) : At p l e (rmK 4) s m args below meth c D G ad (MQJ D G ad below args s res) 9 st [(0, .ref (ad 130)), (1, .int v1), (2, .int v2), (3, .int v3)] 19 [.int k0] := by
  obtain ⟨hx, hb, hml, hown, hts, hr, hlk, hK, had, hSt⟩ := id C
  intro H locs ls hl hP hS
  unfold fX11_pole_s19 at hf
  refine lv_if_eq (tgt := 32) hx hb dX11_pole_19 (by decide) (fun q => ?_) (fun q => ?_)
  · exact wX11_pole_s32 C n st res (it hf q) H locs ls (lv_sub hl [] rfl) hP hS
  · exact wX11_pole_s22 C n v1 v2 v3 st res (ie hf q) H locs ls (lv_sub hl [0, 1, 2, 3] rfl) hP hS
def fX11_pole_s10 (n : Nat)   (v1 : Int32) (v2 : Int32) (v3 : Int32) (st : St) : Option (Int64 × St) := (fX11_in n v2.toInt64 0 2 st).bind (fun q => fX11_pole_s19 n v1 v2 v3 q.1 q.2)
set_option maxHeartbeats 4000000 in
set_option maxRecDepth 100000 in
theorem wX11_pole_s10 (C : Cx p s m args meth c cX11_pole 9 wsL_law RX11 (some .long) D G ad) (n : Nat)   (v1 : Int32) (v2 : Int32) (v3 : Int32)   (st : St) (res : (Int64 × St))  (hf : fX11_pole_s10 n   v1 v2 v3 st = some res) : At p l e (rmK 4) s m args below meth c D G ad (MQJ D G ad below args s res) 9 st [(0, .ref (ad 130)), (1, .int v1), (2, .int v2), (3, .int v3)] 10 [] := by
  obtain ⟨hx, hb, hml, hown, hts, hr, hlk, hK, had, hSt⟩ := id C
  intro H locs ls hl hP hS
  unfold fX11_pole_s10 at hf
  refine lv_iload_n hx hb dX11_pole_10 rfl (lv_at hl 2 rfl) ?_
  refine lv_i2l hx hb dX11_pole_11 rfl ?_
  refine lv_lconst (v := 0) hx hb dX11_pole_12 (by decide) ?_
  refine lv_ldc2 hx hb hown (hts _ wm_12_15) dX11_pole_13 ?_
  obtain ⟨q, hq, hf⟩ := bd hf
  refine gcS_i (k := 0) (As := [.long v2.toInt64, .long 0, .long 2]) (rest := []) hx hb hml hown hts hK hSt hP hS hl.1 (goodS wm_10_21 wm_10_22 wm_1_5 wm_10_23) okX11_in (Nat.le_of_ble_eq_true rfl) (Nat.le_of_ble_eq_true rfl) rfl rfl (Nat.le_of_ble_eq_true rfl) dX11_pole_16 (kX11_in l D G ad had n  v2.toInt64 0 2 st q hq) (fun H locs hP hS => ?_)
  exact wX11_pole_s19 C n v1 v2 v3 q.1 q.2 res hf H locs ls (lv_sub hl [0, 1, 2, 3] rfl) hP hS
def fX11_pole_s7 (n : Nat)   (v1 : Int32) (v2 : Int32) (v3 : Int32) (k0 : Int32) (st : St) : Option (Int64 × St) := if k0 = 0 then fX11_pole_s32 n st else fX11_pole_s10 n v1 v2 v3 st
set_option maxHeartbeats 4000000 in
set_option maxRecDepth 100000 in
theorem wX11_pole_s7 (C : Cx p s m args meth c cX11_pole 9 wsL_law RX11 (some .long) D G ad) (n : Nat)   (v1 : Int32) (v2 : Int32) (v3 : Int32) (k0 : Int32)   (st : St) (res : (Int64 × St))  (hf : fX11_pole_s7 n   v1 v2 v3 k0 st = some res) : At p l e (rmK 4) s m args below meth c D G ad (MQJ D G ad below args s res) 9 st [(0, .ref (ad 130)), (1, .int v1), (2, .int v2), (3, .int v3)] 7 [.int k0] := by
  obtain ⟨hx, hb, hml, hown, hts, hr, hlk, hK, had, hSt⟩ := id C
  intro H locs ls hl hP hS
  unfold fX11_pole_s7 at hf
  refine lv_if_eq (tgt := 32) hx hb dX11_pole_7 (by decide) (fun q => ?_) (fun q => ?_)
  · exact wX11_pole_s32 C n st res (it hf q) H locs ls (lv_sub hl [] rfl) hP hS
  · exact wX11_pole_s10 C n v1 v2 v3 st res (ie hf q) H locs ls (lv_sub hl [0, 1, 2, 3] rfl) hP hS
def fX11_pole_s0 (n : Nat)   (v1 : Int32) (v2 : Int32) (v3 : Int32) (st : St) : Option (Int64 × St) := (fX11_in n v1.toInt64 0 1 st).bind (fun q => fX11_pole_s7 n v1 v2 v3 q.1 q.2)
set_option maxHeartbeats 4000000 in
set_option maxRecDepth 100000 in
theorem wX11_pole_s0 (C : Cx p s m args meth c cX11_pole 9 wsL_law RX11 (some .long) D G ad) (n : Nat)   (v1 : Int32) (v2 : Int32) (v3 : Int32)   (st : St) (res : (Int64 × St))  (hf : fX11_pole_s0 n   v1 v2 v3 st = some res) : At p l e (rmK 4) s m args below meth c D G ad (MQJ D G ad below args s res) 9 st [(0, .ref (ad 130)), (1, .int v1), (2, .int v2), (3, .int v3)] 0 [] := by
  obtain ⟨hx, hb, hml, hown, hts, hr, hlk, hK, had, hSt⟩ := id C
  intro H locs ls hl hP hS
  unfold fX11_pole_s0 at hf
  refine lv_iload_n hx hb dX11_pole_0 rfl (lv_at hl 1 rfl) ?_
  refine lv_i2l hx hb dX11_pole_1 rfl ?_
  refine lv_lconst (v := 0) hx hb dX11_pole_2 (by decide) ?_
  refine lv_lconst (v := 1) hx hb dX11_pole_3 (by decide) ?_
  obtain ⟨q, hq, hf⟩ := bd hf
  refine gcS_i (k := 0) (As := [.long v1.toInt64, .long 0, .long 1]) (rest := []) hx hb hml hown hts hK hSt hP hS hl.1 (goodS wm_10_21 wm_10_22 wm_1_5 wm_10_23) okX11_in (Nat.le_of_ble_eq_true rfl) (Nat.le_of_ble_eq_true rfl) rfl rfl (Nat.le_of_ble_eq_true rfl) dX11_pole_4 (kX11_in l D G ad had n  v1.toInt64 0 1 st q hq) (fun H locs hP hS => ?_)
  exact wX11_pole_s7 C n v1 v2 v3 q.1 q.2 res hf H locs ls (lv_sub hl [0, 1, 2, 3] rfl) hP hS
def fX11_pole (n : Nat)  (a1 : Int32) (a2 : Int32) (a3 : Int32) (st : St) : Option (Int64 × St) := fX11_pole_s0 n a1 a2 a3 st
theorem okX11_pole : okY yX11_pole RX11 3 := by unfold okY; decide +kernel
end
set_option maxRecDepth 100000 in
theorem kX11_pole (l : Launch) (D : va_G) (G : G3) (ad : Nat → Nat) (had : Adr ad) (n : Nat)   (a1 : Int32) (a2 : Int32) (a3 : Int32) (st : St) (res : (Int64 × St)) (hf : fX11_pole n  a1 a2 a3 st = some res) {sz : Nat} : CtJ l yX11_pole (wsU yX11_pole cX11_pole 9 (some .long)) (rmK 4) D G ad sz [.ref (ad 130), .int a1, .int a2, .int a3] st res := by
  refine Met.ofW (cc := cX11_pole) (maxL := 9) (ret := (some .long)) (by decide) rfl ?_
  intro p e s m args below meth c s₁ B hml hv
  obtain ⟨rfl, hsz, hP, hK, hSt⟩ := hv
  have hts := atoms_spec (ws := wsU yX11_pole cX11_pole 9 (some .long)) B.pre
  have C : Cx p s m _ meth c cX11_pole 9 wsL_law RX11 (some .long) D G ad := ⟨B.exec, B.bytes, hml, findClass_of_methodNamed B.named, fun w h => hts w (List.mem_cons_of_mem _ h), B.returns, B.notSynchronized, hK, had, hSt⟩
  subst hsz
  have hl := lv_entry ([.ref (ad 130), .int a1, .int a2, .int a3]) (n := 9) (Nat.le_of_ble_eq_true rfl)
  rw [lg_entry_eq]
  generalize (lg_sl ([.ref (ad 130), .int a1, .int a2, .int a3]) ++ List.replicate (9 - (lg_sl ([.ref (ad 130), .int a1, .int a2, .int a3])).length) Slot.unset).toArray = ls at hl ⊢
  exact wX11_pole_s0 C n  a1 a2 a3   st res hf s.heap [] ls (lv_sub hl [0, 1, 2, 3] rfl) hP va_S.rf
section
variable {p : Program} {l : Launch} {e : Env} {s : State} {m : MethodId} {args : Array Value} {below : List Frame} {meth : Method} {c : Code} {D : va_G} {G : G3} {ad : Nat → Nat}
def fX11_loud_s22 (n : Nat)    (st : St) : Option (Int64 × St) := some ((-9223372036854775808), st)
set_option maxHeartbeats 4000000 in
set_option maxRecDepth 100000 in
theorem wX11_loud_s22 (C : Cx p s m args meth c cX11_loud 8 wsL_law RX11 (some .long) D G ad) (n : Nat)      (st : St) (res : (Int64 × St))  (hf : fX11_loud_s22 n    st = some res) : At p l e (rmK 4) s m args below meth c D G ad (MQJ D G ad below args s res) 8 st [] 22 [] := by
  obtain ⟨hx, hb, hml, hown, hts, hr, hlk, hK, had, hSt⟩ := id C
  intro H locs ls hl hP hS
  unfold fX11_loud_s22 at hf
  refine lv_ldc2 hx hb hown (hts _ wm_14_15) dX11_loud_22 ?_
  exact g_lret hx hb hr hlk hP hS dX11_loud_25 hf
def fX11_loud_s141 (n : Nat)   (k0 : Int64) (st : St) : Option (Int64 × St) := some (k0, st)
set_option maxHeartbeats 4000000 in
set_option maxRecDepth 100000 in
theorem wX11_loud_s141 (C : Cx p s m args meth c cX11_loud 8 wsL_law RX11 (some .long) D G ad) (n : Nat)   (k0 : Int64)   (st : St) (res : (Int64 × St))  (hf : fX11_loud_s141 n   k0 st = some res) : At p l e (rmK 4) s m args below meth c D G ad (MQJ D G ad below args s res) 8 st [] 141 [.long k0] := by
  obtain ⟨hx, hb, hml, hown, hts, hr, hlk, hK, had, hSt⟩ := id C
  intro H locs ls hl hP hS
  unfold fX11_loud_s141 at hf
  exact g_lret hx hb hr hlk hP hS dX11_loud_141 hf
def fX11_loud_s139 (n : Nat)   (v5 : Int64) (st : St) : Option (Int64 × St) := fX11_loud_s141 n v5 st
set_option maxHeartbeats 4000000 in
set_option maxRecDepth 100000 in
theorem wX11_loud_s139 (C : Cx p s m args meth c cX11_loud 8 wsL_law RX11 (some .long) D G ad) (n : Nat)   (v5 : Int64)   (st : St) (res : (Int64 × St))  (hf : fX11_loud_s139 n   v5 st = some res) : At p l e (rmK 4) s m args below meth c D G ad (MQJ D G ad below args s res) 8 st [(5, .long v5)] 139 [] := by
  obtain ⟨hx, hb, hml, hown, hts, hr, hlk, hK, had, hSt⟩ := id C
  intro H locs ls hl hP hS
  unfold fX11_loud_s139 at hf
  refine lv_lload hx hb dX11_loud_139 (lv_at hl 0 rfl) ?_
  exact wX11_loud_s141 C n v5 st res hf H locs ls (lv_sub hl [] rfl) hP hS
def fX11_loud_s135 (n : Nat)   (v3 : Int64) (st : St) : Option (Int64 × St) := fX11_loud_s141 n v3 st
set_option maxHeartbeats 4000000 in
set_option maxRecDepth 100000 in
theorem wX11_loud_s135 (C : Cx p s m args meth c cX11_loud 8 wsL_law RX11 (some .long) D G ad) (n : Nat)   (v3 : Int64)   (st : St) (res : (Int64 × St))  (hf : fX11_loud_s135 n   v3 st = some res) : At p l e (rmK 4) s m args below meth c D G ad (MQJ D G ad below args s res) 8 st [(3, .long v3)] 135 [] := by
  obtain ⟨hx, hb, hml, hown, hts, hr, hlk, hK, had, hSt⟩ := id C
  intro H locs ls hl hP hS
  unfold fX11_loud_s135 at hf
  refine lv_lload_n hx hb dX11_loud_135 rfl (lv_at hl 0 rfl) ?_
  refine lv_goto (tgt := 141) hx hb dX11_loud_136 (by decide) ?_
  exact wX11_loud_s141 C n v3 st res hf H locs ls (lv_sub hl [] rfl) hP hS
def fX11_loud_s131 (n : Nat)   (v2 : Int32) (v3 : Int64) (v5 : Int64) (st : St) : Option (Int64 × St) := if v2 = 0 then fX11_loud_s135 n v3 st else fX11_loud_s139 n v5 st
set_option maxHeartbeats 4000000 in
set_option maxRecDepth 100000 in
theorem wX11_loud_s131 (C : Cx p s m args meth c cX11_loud 8 wsL_law RX11 (some .long) D G ad) (n : Nat)   (v2 : Int32) (v3 : Int64) (v5 : Int64)   (st : St) (res : (Int64 × St))  (hf : fX11_loud_s131 n   v2 v3 v5 st = some res) : At p l e (rmK 4) s m args below meth c D G ad (MQJ D G ad below args s res) 8 st [(2, .int v2), (3, .long v3), (5, .long v5)] 131 [] := by
  obtain ⟨hx, hb, hml, hown, hts, hr, hlk, hK, had, hSt⟩ := id C
  intro H locs ls hl hP hS
  unfold fX11_loud_s131 at hf
  refine lv_iload_n hx hb dX11_loud_131 rfl (lv_at hl 0 rfl) ?_
  refine lv_if_ne (tgt := 139) hx hb dX11_loud_132 (by decide) (fun q => ?_) (fun q => ?_)
  · exact wX11_loud_s139 C n v5 st res (ie hf q) H locs ls (lv_sub hl [2] rfl) hP hS
  · exact wX11_loud_s135 C n v3 st res (it hf q) H locs ls (lv_sub hl [1] rfl) hP hS
def fX11_loud_s125 (n : Nat)    (st : St) : Option (Int64 × St) := fX11_loud_s141 n (-9223372036854775807) st
set_option maxHeartbeats 4000000 in
set_option maxRecDepth 100000 in
theorem wX11_loud_s125 (C : Cx p s m args meth c cX11_loud 8 wsL_law RX11 (some .long) D G ad) (n : Nat)      (st : St) (res : (Int64 × St))  (hf : fX11_loud_s125 n    st = some res) : At p l e (rmK 4) s m args below meth c D G ad (MQJ D G ad below args s res) 8 st [] 125 [] := by
  obtain ⟨hx, hb, hml, hown, hts, hr, hlk, hK, had, hSt⟩ := id C
  intro H locs ls hl hP hS
  unfold fX11_loud_s125 at hf
  refine lv_ldc2 hx hb hown (hts _ wm_34_7) dX11_loud_125 ?_
  refine lv_goto (tgt := 141) hx hb dX11_loud_128 (by decide) ?_
  exact wX11_loud_s141 C n (-9223372036854775807) st res hf H locs ls (lv_sub hl [] rfl) hP hS
def fX11_loud_s118 (n : Nat)   (v2 : Int32) (v3 : Int64) (v5 : Int64) (st : St) : Option (Int64 × St) := if (st.1 130 47) = 0 then fX11_loud_s131 n v2 v3 v5 st else fX11_loud_s125 n st
set_option maxHeartbeats 4000000 in
set_option maxRecDepth 100000 in
theorem wX11_loud_s118 (C : Cx p s m args meth c cX11_loud 8 wsL_law RX11 (some .long) D G ad) (n : Nat)   (v2 : Int32) (v3 : Int64) (v5 : Int64)   (st : St) (res : (Int64 × St))  (hf : fX11_loud_s118 n   v2 v3 v5 st = some res) : At p l e (rmK 4) s m args below meth c D G ad (MQJ D G ad below args s res) 8 st [(0, .ref (ad 130)), (2, .int v2), (3, .long v3), (5, .long v5)] 118 [] := by
  obtain ⟨hx, hb, hml, hown, hts, hr, hlk, hK, had, hSt⟩ := id C
  intro H locs ls hl hP hS
  unfold fX11_loud_s118 at hf
  refine lv_aload_n hx hb dX11_loud_118 rfl (lv_at hl 0 rfl) ?_
  refine g_getI hx hb hts inlX11 hown hK hP 130 ct_130 rfl 47 (by decide) (hts _ wm_36_14) rfl dX11_loud_119 ?_
  refine lv_if_eq (tgt := 131) hx hb dX11_loud_122 (by decide) (fun q => ?_) (fun q => ?_)
  · exact wX11_loud_s131 C n v2 v3 v5 st res (it hf q) H locs ls (lv_sub hl [1, 2, 3] rfl) hP hS
  · exact wX11_loud_s125 C n st res (ie hf q) H locs ls (lv_sub hl [] rfl) hP hS
def fX11_loud_s101 (n : Nat) (K41 : Int32 → Int32 → Int64 → Int64 → Int32 → St → Option (Int64 × St))  (v1 : Int32) (v2 : Int32) (v7 : Int32) (st : St) : Option (Int64 × St) := K41 v1 v2 (st.2 130 45) (st.2 130 46) (v7 + 1) st
set_option maxHeartbeats 4000000 in
set_option maxRecDepth 100000 in
theorem wX11_loud_s101 (C : Cx p s m args meth c cX11_loud 8 wsL_law RX11 (some .long) D G ad) (n : Nat) (K41 : Int32 → Int32 → Int64 → Int64 → Int32 → St → Option (Int64 × St))  (v1 : Int32) (v2 : Int32) (v7 : Int32)   (st : St) (res : (Int64 × St)) (hK41 : ∀ (v1 : Int32) (v2 : Int32) (v3 : Int64) (v5 : Int64) (v7 : Int32) (st : St), K41 v1 v2 v3 v5 v7 st = some res → At p l e (rmK 4) s m args below meth c D G ad (MQJ D G ad below args s res) 8 st [(0, .ref (ad 130)), (1, .int v1), (2, .int v2), (3, .long v3), (5, .long v5), (7, .int v7)] 41 []) (hf : fX11_loud_s101 n K41  v1 v2 v7 st = some res) : At p l e (rmK 4) s m args below meth c D G ad (MQJ D G ad below args s res) 8 st [(0, .ref (ad 130)), (1, .int v1), (2, .int v2), (7, .int v7)] 101 [] := by
  obtain ⟨hx, hb, hml, hown, hts, hr, hlk, hK, had, hSt⟩ := id C
  intro H locs ls hl hP hS
  unfold fX11_loud_s101 at hf
  refine lv_aload_n hx hb dX11_loud_101 rfl (lv_at hl 0 rfl) ?_
  refine g_getJ hx hb hts inlX11 hown hK hP 130 ct_130 rfl 45 (by decide) (hts _ wm_36_23) rfl dX11_loud_102 ?_
  refine lv_lstore_n (lv' := [(3, .long (st.2 130 45)), (0, .ref (ad 130)), (1, .int v1), (2, .int v2), (7, .int v7)]) hx hb dX11_loud_105 rfl hl (by decide) rfl (fun ls hl => ?_)
  refine lv_aload_n hx hb dX11_loud_106 rfl (lv_at hl 1 rfl) ?_
  refine g_getJ hx hb hts inlX11 hown hK hP 130 ct_130 rfl 46 (by decide) (hts _ wm_37_0) rfl dX11_loud_107 ?_
  refine lv_lstore (lv' := [(5, .long (st.2 130 46)), (3, .long (st.2 130 45)), (0, .ref (ad 130)), (1, .int v1), (2, .int v2), (7, .int v7)]) hx hb dX11_loud_110 hl (by decide) rfl (fun ls hl => ?_)
  refine lv_iinc (v := v7 + 1) (lv' := [(7, .int (v7 + 1)), (5, .long (st.2 130 46)), (3, .long (st.2 130 45)), (0, .ref (ad 130)), (1, .int v1), (2, .int v2)]) hx hb dX11_loud_112 hl (k := 5) rfl rfl (by decide) rfl (fun ls hl => ?_)
  refine lv_goto (tgt := 41) hx hb dX11_loud_115 (by decide) ?_
  exact hK41 v1 v2 (st.2 130 45) (st.2 130 46) (v7 + 1)  st hf H locs ls (lv_sub hl [3, 4, 5, 2, 1, 0] rfl) hP hS
def fX11_loud_s86 (n : Nat) (K41 : Int32 → Int32 → Int64 → Int64 → Int32 → St → Option (Int64 × St))  (v1 : Int32) (v2 : Int32) (v3 : Int64) (v5 : Int64) (v7 : Int32) (st : St) : Option (Int64 × St) := (fX11_adds n v3 v5 (st.2 130 45) (st.2 130 46) st).bind (fun q => fX11_loud_s101 n K41 v1 v2 v7 q.2)
set_option maxHeartbeats 4000000 in
set_option maxRecDepth 100000 in
theorem wX11_loud_s86 (C : Cx p s m args meth c cX11_loud 8 wsL_law RX11 (some .long) D G ad) (n : Nat) (K41 : Int32 → Int32 → Int64 → Int64 → Int32 → St → Option (Int64 × St))  (v1 : Int32) (v2 : Int32) (v3 : Int64) (v5 : Int64) (v7 : Int32)   (st : St) (res : (Int64 × St)) (hK41 : ∀ (v1 : Int32) (v2 : Int32) (v3 : Int64) (v5 : Int64) (v7 : Int32) (st : St), K41 v1 v2 v3 v5 v7 st = some res → At p l e (rmK 4) s m args below meth c D G ad (MQJ D G ad below args s res) 8 st [(0, .ref (ad 130)), (1, .int v1), (2, .int v2), (3, .long v3), (5, .long v5), (7, .int v7)] 41 []) (hf : fX11_loud_s86 n K41  v1 v2 v3 v5 v7 st = some res) : At p l e (rmK 4) s m args below meth c D G ad (MQJ D G ad below args s res) 8 st [(0, .ref (ad 130)), (1, .int v1), (2, .int v2), (3, .long v3), (5, .long v5), (7, .int v7)] 86 [] := by
  obtain ⟨hx, hb, hml, hown, hts, hr, hlk, hK, had, hSt⟩ := id C
  intro H locs ls hl hP hS
  unfold fX11_loud_s86 at hf
  refine lv_aload_n hx hb dX11_loud_86 rfl (lv_at hl 0 rfl) ?_
  refine lv_lload_n hx hb dX11_loud_87 rfl (lv_at hl 3 rfl) ?_
  refine lv_lload hx hb dX11_loud_88 (lv_at hl 4 rfl) ?_
  refine lv_aload_n hx hb dX11_loud_90 rfl (lv_at hl 0 rfl) ?_
  refine g_getJ hx hb hts inlX11 hown hK hP 130 ct_130 rfl 45 (by decide) (hts _ wm_36_23) rfl dX11_loud_91 ?_
  refine lv_aload_n hx hb dX11_loud_94 rfl (lv_at hl 0 rfl) ?_
  refine g_getJ hx hb hts inlX11 hown hK hP 130 ct_130 rfl 46 (by decide) (hts _ wm_37_0) rfl dX11_loud_95 ?_
  obtain ⟨q, hq, hf⟩ := bd hf
  refine gcV_v (k := 2) (o := 130) (As := [.long v3, .long v5, .long (st.2 130 45), .long (st.2 130 46)]) (rest := []) hx hb hml hown hts hK hSt hP hS hl.1 (goodV wm_37_1 wm_37_2 wm_37_3 wm_1_5 wm_37_4) okX11_adds ct_130 rfl rfl (Nat.le_of_ble_eq_true rfl) (Nat.le_of_ble_eq_true rfl) rfl rfl (Nat.le_of_ble_eq_true rfl) dX11_loud_98 (kX11_adds l D G ad had n  v3 v5 (st.2 130 45) (st.2 130 46) st q hq) (fun H locs hP hS => ?_)
  exact wX11_loud_s101 C n K41 v1 v2 v7 q.2 res hK41 hf H locs ls (lv_sub hl [0, 1, 2, 5] rfl) hP hS
def fX11_loud_s54 (n : Nat) (K41 : Int32 → Int32 → Int64 → Int64 → Int32 → St → Option (Int64 × St))  (v1 : Int32) (v2 : Int32) (v3 : Int64) (v5 : Int64) (v7 : Int32) (st : St) : Option (Int64 × St) := if inb v7 31 = true then (if inb v7 31 = true then (if inb v7 31 = true then (if inb v7 31 = true then ((fX11_multiplies n (st.2 159 v7.toNatClampNeg) (st.2 160 v7.toNatClampNeg) (st.2 159 v7.toNatClampNeg) (st.2 160 v7.toNatClampNeg) st).bind (fun q => fX11_loud_s86 n K41 v1 v2 v3 v5 v7 q.2)) else none) else none) else none) else none
set_option maxHeartbeats 4000000 in
set_option maxRecDepth 100000 in
theorem wX11_loud_s54 (C : Cx p s m args meth c cX11_loud 8 wsL_law RX11 (some .long) D G ad) (n : Nat) (K41 : Int32 → Int32 → Int64 → Int64 → Int32 → St → Option (Int64 × St))  (v1 : Int32) (v2 : Int32) (v3 : Int64) (v5 : Int64) (v7 : Int32)   (st : St) (res : (Int64 × St)) (hK41 : ∀ (v1 : Int32) (v2 : Int32) (v3 : Int64) (v5 : Int64) (v7 : Int32) (st : St), K41 v1 v2 v3 v5 v7 st = some res → At p l e (rmK 4) s m args below meth c D G ad (MQJ D G ad below args s res) 8 st [(0, .ref (ad 130)), (1, .int v1), (2, .int v2), (3, .long v3), (5, .long v5), (7, .int v7)] 41 []) (hf : fX11_loud_s54 n K41  v1 v2 v3 v5 v7 st = some res) : At p l e (rmK 4) s m args below meth c D G ad (MQJ D G ad below args s res) 8 st [(0, .ref (ad 130)), (1, .int v1), (2, .int v2), (3, .long v3), (5, .long v5), (7, .int v7)] 54 [] := by
  obtain ⟨hx, hb, hml, hown, hts, hr, hlk, hK, had, hSt⟩ := id C
  intro H locs ls hl hP hS
  unfold fX11_loud_s54 at hf
  refine lv_aload_n hx hb dX11_loud_54 rfl (lv_at hl 0 rfl) ?_
  refine lv_aload_n hx hb dX11_loud_55 rfl (lv_at hl 0 rfl) ?_
  refine g_getR hx hb hts inlX11 hown hK hP 130 ct_130 rfl 48 (by decide) (hts _ wm_8_11) rfl dX11_loud_56 ?_
  refine lv_iload hx hb dX11_loud_59 (lv_at hl 5 rfl) ?_
  obtain ⟨g1, hf⟩ := gd hf
  refine g_lald hx hb hK hP 159 ct_159 g1 dX11_loud_61 ?_
  refine lv_aload_n hx hb dX11_loud_62 rfl (lv_at hl 0 rfl) ?_
  refine g_getR hx hb hts inlX11 hown hK hP 130 ct_130 rfl 49 (by decide) (hts _ wm_8_12) rfl dX11_loud_63 ?_
  refine lv_iload hx hb dX11_loud_66 (lv_at hl 5 rfl) ?_
  obtain ⟨g2, hf⟩ := gd hf
  refine g_lald hx hb hK hP 160 ct_160 g2 dX11_loud_68 ?_
  refine lv_aload_n hx hb dX11_loud_69 rfl (lv_at hl 0 rfl) ?_
  refine g_getR hx hb hts inlX11 hown hK hP 130 ct_130 rfl 48 (by decide) (hts _ wm_8_11) rfl dX11_loud_70 ?_
  refine lv_iload hx hb dX11_loud_73 (lv_at hl 5 rfl) ?_
  obtain ⟨g3, hf⟩ := gd hf
  refine g_lald hx hb hK hP 159 ct_159 g3 dX11_loud_75 ?_
  refine lv_aload_n hx hb dX11_loud_76 rfl (lv_at hl 0 rfl) ?_
  refine g_getR hx hb hts inlX11 hown hK hP 130 ct_130 rfl 49 (by decide) (hts _ wm_8_12) rfl dX11_loud_77 ?_
  refine lv_iload hx hb dX11_loud_80 (lv_at hl 5 rfl) ?_
  obtain ⟨g4, hf⟩ := gd hf
  refine g_lald hx hb hK hP 160 ct_160 g4 dX11_loud_82 ?_
  obtain ⟨q, hq, hf⟩ := bd hf
  refine gcV_v (k := 2) (o := 130) (As := [.long (st.2 159 v7.toNatClampNeg), .long (st.2 160 v7.toNatClampNeg), .long (st.2 159 v7.toNatClampNeg), .long (st.2 160 v7.toNatClampNeg)]) (rest := []) hx hb hml hown hts hK hSt hP hS hl.1 (goodV wm_37_9 wm_37_10 wm_37_11 wm_1_5 wm_37_12) okX11_multiplies ct_130 rfl rfl (Nat.le_of_ble_eq_true rfl) (Nat.le_of_ble_eq_true rfl) rfl rfl (Nat.le_of_ble_eq_true rfl) dX11_loud_83 (kX11_multiplies l D G ad had n  (st.2 159 v7.toNatClampNeg) (st.2 160 v7.toNatClampNeg) (st.2 159 v7.toNatClampNeg) (st.2 160 v7.toNatClampNeg) st q hq) (fun H locs hP hS => ?_)
  exact wX11_loud_s86 C n K41 v1 v2 v3 v5 v7 q.2 res hK41 hf H locs ls (lv_sub hl [0, 1, 2, 3, 4, 5] rfl) hP hS
def fX11_loud_s47 (n : Nat) (K41 : Int32 → Int32 → Int64 → Int64 → Int32 → St → Option (Int64 × St))  (v1 : Int32) (v2 : Int32) (v3 : Int64) (v5 : Int64) (v7 : Int32) (st : St) : Option (Int64 × St) := if (st.1 130 47) = 0 then fX11_loud_s54 n K41 v1 v2 v3 v5 v7 st else fX11_loud_s118 n v2 v3 v5 st
set_option maxHeartbeats 4000000 in
set_option maxRecDepth 100000 in
theorem wX11_loud_s47 (C : Cx p s m args meth c cX11_loud 8 wsL_law RX11 (some .long) D G ad) (n : Nat) (K41 : Int32 → Int32 → Int64 → Int64 → Int32 → St → Option (Int64 × St))  (v1 : Int32) (v2 : Int32) (v3 : Int64) (v5 : Int64) (v7 : Int32)   (st : St) (res : (Int64 × St)) (hK41 : ∀ (v1 : Int32) (v2 : Int32) (v3 : Int64) (v5 : Int64) (v7 : Int32) (st : St), K41 v1 v2 v3 v5 v7 st = some res → At p l e (rmK 4) s m args below meth c D G ad (MQJ D G ad below args s res) 8 st [(0, .ref (ad 130)), (1, .int v1), (2, .int v2), (3, .long v3), (5, .long v5), (7, .int v7)] 41 []) (hf : fX11_loud_s47 n K41  v1 v2 v3 v5 v7 st = some res) : At p l e (rmK 4) s m args below meth c D G ad (MQJ D G ad below args s res) 8 st [(0, .ref (ad 130)), (1, .int v1), (2, .int v2), (3, .long v3), (5, .long v5), (7, .int v7)] 47 [] := by
  obtain ⟨hx, hb, hml, hown, hts, hr, hlk, hK, had, hSt⟩ := id C
  intro H locs ls hl hP hS
  unfold fX11_loud_s47 at hf
  refine lv_aload_n hx hb dX11_loud_47 rfl (lv_at hl 0 rfl) ?_
  refine g_getI hx hb hts inlX11 hown hK hP 130 ct_130 rfl 47 (by decide) (hts _ wm_36_14) rfl dX11_loud_48 ?_
  refine lv_if_ne (tgt := 118) hx hb dX11_loud_51 (by decide) (fun q => ?_) (fun q => ?_)
  · exact wX11_loud_s118 C n v2 v3 v5 st res (ie hf q) H locs ls (lv_sub hl [0, 2, 3, 4] rfl) hP hS
  · exact wX11_loud_s54 C n K41 v1 v2 v3 v5 v7 st res hK41 (it hf q) H locs ls (lv_sub hl [0, 1, 2, 3, 4, 5] rfl) hP hS
def fX11_loud_s41 (n : Nat) (K41 : Int32 → Int32 → Int64 → Int64 → Int32 → St → Option (Int64 × St))  (v1 : Int32) (v2 : Int32) (v3 : Int64) (v5 : Int64) (v7 : Int32) (st : St) : Option (Int64 × St) := if v1 ≤ v7 then fX11_loud_s118 n v2 v3 v5 st else fX11_loud_s47 n K41 v1 v2 v3 v5 v7 st
set_option maxHeartbeats 4000000 in
set_option maxRecDepth 100000 in
theorem wX11_loud_s41 (C : Cx p s m args meth c cX11_loud 8 wsL_law RX11 (some .long) D G ad) (n : Nat) (K41 : Int32 → Int32 → Int64 → Int64 → Int32 → St → Option (Int64 × St))  (v1 : Int32) (v2 : Int32) (v3 : Int64) (v5 : Int64) (v7 : Int32)   (st : St) (res : (Int64 × St)) (hK41 : ∀ (v1 : Int32) (v2 : Int32) (v3 : Int64) (v5 : Int64) (v7 : Int32) (st : St), K41 v1 v2 v3 v5 v7 st = some res → At p l e (rmK 4) s m args below meth c D G ad (MQJ D G ad below args s res) 8 st [(0, .ref (ad 130)), (1, .int v1), (2, .int v2), (3, .long v3), (5, .long v5), (7, .int v7)] 41 []) (hf : fX11_loud_s41 n K41  v1 v2 v3 v5 v7 st = some res) : At p l e (rmK 4) s m args below meth c D G ad (MQJ D G ad below args s res) 8 st [(0, .ref (ad 130)), (1, .int v1), (2, .int v2), (3, .long v3), (5, .long v5), (7, .int v7)] 41 [] := by
  obtain ⟨hx, hb, hml, hown, hts, hr, hlk, hK, had, hSt⟩ := id C
  intro H locs ls hl hP hS
  unfold fX11_loud_s41 at hf
  refine lv_iload hx hb dX11_loud_41 (lv_at hl 5 rfl) ?_
  refine lv_iload_n hx hb dX11_loud_43 rfl (lv_at hl 1 rfl) ?_
  refine lv_icmp_ge (tgt := 118) hx hb dX11_loud_44 (by decide) (fun q => ?_) (fun q => ?_)
  · exact wX11_loud_s118 C n v2 v3 v5 st res (it hf q) H locs ls (lv_sub hl [0, 2, 3, 4] rfl) hP hS
  · exact wX11_loud_s47 C n K41 v1 v2 v3 v5 v7 st res hK41 (ie hf q) H locs ls (lv_sub hl [0, 1, 2, 3, 4, 5] rfl) hP hS
def fX11_loud_L41 (n : Nat)   : Nat → Int32 → Int32 → Int64 → Int64 → Int32 → St → Option (Int64 × St)
  | 0, _, _, _, _, _, _ => none
  | k + 1, v1, v2, v3, v5, v7, st => fX11_loud_s41 n (fX11_loud_L41 n k)  v1 v2 v3 v5 v7 st
theorem wX11_loud_L41 (C : Cx p s m args meth c cX11_loud 8 wsL_law RX11 (some .long) D G ad) (n : Nat)    (res : (Int64 × St))  : ∀ (k : Nat) (v1 : Int32) (v2 : Int32) (v3 : Int64) (v5 : Int64) (v7 : Int32)  (st : St), fX11_loud_L41 n k v1 v2 v3 v5 v7 st = some res → At p l e (rmK 4) s m args below meth c D G ad (MQJ D G ad below args s res) 8 st [(0, .ref (ad 130)), (1, .int v1), (2, .int v2), (3, .long v3), (5, .long v5), (7, .int v7)] 41 [] := by
  intro k
  induction k with
  | zero => intro v1 v2 v3 v5 v7  st h; exact absurd h (by intro q; cases q)
  | succ k ih => intro v1 v2 v3 v5 v7  st h; exact wX11_loud_s41 C n (fX11_loud_L41 n k)  v1 v2 v3 v5 v7   st res ih h
def fX11_loud_s33 (n : Nat)   (v1 : Int32) (v2 : Int32) (st : St) : Option (Int64 × St) := fX11_loud_L41 n n v1 v2 0 1 0 st
set_option maxHeartbeats 4000000 in
set_option maxRecDepth 100000 in
theorem wX11_loud_s33 (C : Cx p s m args meth c cX11_loud 8 wsL_law RX11 (some .long) D G ad) (n : Nat)   (v1 : Int32) (v2 : Int32)   (st : St) (res : (Int64 × St))  (hf : fX11_loud_s33 n   v1 v2 st = some res) : At p l e (rmK 4) s m args below meth c D G ad (MQJ D G ad below args s res) 8 st [(0, .ref (ad 130)), (1, .int v1), (2, .int v2)] 33 [] := by
  obtain ⟨hx, hb, hml, hown, hts, hr, hlk, hK, had, hSt⟩ := id C
  intro H locs ls hl hP hS
  unfold fX11_loud_s33 at hf
  refine lv_lconst (v := 0) hx hb dX11_loud_33 (by decide) ?_
  refine lv_lstore_n (lv' := [(3, .long 0), (0, .ref (ad 130)), (1, .int v1), (2, .int v2)]) hx hb dX11_loud_34 rfl hl (by decide) rfl (fun ls hl => ?_)
  refine lv_lconst (v := 1) hx hb dX11_loud_35 (by decide) ?_
  refine lv_lstore (lv' := [(5, .long 1), (3, .long 0), (0, .ref (ad 130)), (1, .int v1), (2, .int v2)]) hx hb dX11_loud_36 hl (by decide) rfl (fun ls hl => ?_)
  refine lv_iconst (v := 0) hx hb dX11_loud_38 (by decide) ?_
  refine lv_istore (lv' := [(7, .int 0), (5, .long 1), (3, .long 0), (0, .ref (ad 130)), (1, .int v1), (2, .int v2)]) hx hb dX11_loud_39 hl (by decide) rfl (fun ls hl => ?_)
  exact wX11_loud_L41 C n res n v1 v2 0 1 0 st hf H locs ls (lv_sub hl [3, 4, 5, 2, 1, 0] rfl) hP hS
def fX11_loud_s26 (n : Nat)   (v1 : Int32) (v2 : Int32) (st : St) : Option (Int64 × St) := (fX11_findEchoes n (v1 - 1) st).bind (fun q => fX11_loud_s33 n v1 v2 q.2)
set_option maxHeartbeats 4000000 in
set_option maxRecDepth 100000 in
theorem wX11_loud_s26 (C : Cx p s m args meth c cX11_loud 8 wsL_law RX11 (some .long) D G ad) (n : Nat)   (v1 : Int32) (v2 : Int32)   (st : St) (res : (Int64 × St))  (hf : fX11_loud_s26 n   v1 v2 st = some res) : At p l e (rmK 4) s m args below meth c D G ad (MQJ D G ad below args s res) 8 st [(0, .ref (ad 130)), (1, .int v1), (2, .int v2)] 26 [] := by
  obtain ⟨hx, hb, hml, hown, hts, hr, hlk, hK, had, hSt⟩ := id C
  intro H locs ls hl hP hS
  unfold fX11_loud_s26 at hf
  refine lv_aload_n hx hb dX11_loud_26 rfl (lv_at hl 0 rfl) ?_
  refine lv_iload_n hx hb dX11_loud_27 rfl (lv_at hl 1 rfl) ?_
  refine lv_iconst (v := 1) hx hb dX11_loud_28 (by decide) ?_
  refine lv_isub hx hb dX11_loud_29 ?_
  obtain ⟨q, hq, hf⟩ := bd hf
  refine gcV_v (k := 3) (o := 130) (As := [.int (v1 - 1)]) (rest := []) hx hb hml hown hts hK hSt hP hS hl.1 (goodV wm_36_15 wm_36_16 wm_36_17 wm_1_5 wm_36_18) okX11_findEchoes ct_130 rfl rfl (Nat.le_of_ble_eq_true rfl) (Nat.le_of_ble_eq_true rfl) rfl rfl (Nat.le_of_ble_eq_true rfl) dX11_loud_30 (kX11_findEchoes l D G ad had n  (v1 - 1) st q hq) (fun H locs hP hS => ?_)
  exact wX11_loud_s33 C n v1 v2 q.2 res hf H locs ls (lv_sub hl [0, 1, 2] rfl) hP hS
def fX11_loud_s19 (n : Nat)   (v1 : Int32) (v2 : Int32) (k0 : Int32) (st : St) : Option (Int64 × St) := if k0 = 0 then fX11_loud_s22 n st else fX11_loud_s26 n v1 v2 st
set_option maxHeartbeats 4000000 in
set_option maxRecDepth 100000 in
theorem wX11_loud_s19 (C : Cx p s m args meth c cX11_loud 8 wsL_law RX11 (some .long) D G ad) (n : Nat)   (v1 : Int32) (v2 : Int32) (k0 : Int32)   (st : St) (res : (Int64 × St))  (hf : fX11_loud_s19 n   v1 v2 k0 st = some res) : At p l e (rmK 4) s m args below meth c D G ad (MQJ D G ad below args s res) 8 st [(0, .ref (ad 130)), (1, .int v1), (2, .int v2)] 19 [.int k0] := by
  obtain ⟨hx, hb, hml, hown, hts, hr, hlk, hK, had, hSt⟩ := id C
  intro H locs ls hl hP hS
  unfold fX11_loud_s19 at hf
  refine lv_if_ne (tgt := 26) hx hb dX11_loud_19 (by decide) (fun q => ?_) (fun q => ?_)
  · exact wX11_loud_s26 C n v1 v2 st res (ie hf q) H locs ls (lv_sub hl [0, 1, 2] rfl) hP hS
  · exact wX11_loud_s22 C n st res (it hf q) H locs ls (lv_sub hl [] rfl) hP hS
def fX11_loud_s12 (n : Nat)   (v1 : Int32) (v2 : Int32) (st : St) : Option (Int64 × St) := (fX11_in n v2.toInt64 0 1 st).bind (fun q => fX11_loud_s19 n v1 v2 q.1 q.2)
set_option maxHeartbeats 4000000 in
set_option maxRecDepth 100000 in
theorem wX11_loud_s12 (C : Cx p s m args meth c cX11_loud 8 wsL_law RX11 (some .long) D G ad) (n : Nat)   (v1 : Int32) (v2 : Int32)   (st : St) (res : (Int64 × St))  (hf : fX11_loud_s12 n   v1 v2 st = some res) : At p l e (rmK 4) s m args below meth c D G ad (MQJ D G ad below args s res) 8 st [(0, .ref (ad 130)), (1, .int v1), (2, .int v2)] 12 [] := by
  obtain ⟨hx, hb, hml, hown, hts, hr, hlk, hK, had, hSt⟩ := id C
  intro H locs ls hl hP hS
  unfold fX11_loud_s12 at hf
  refine lv_iload_n hx hb dX11_loud_12 rfl (lv_at hl 2 rfl) ?_
  refine lv_i2l hx hb dX11_loud_13 rfl ?_
  refine lv_lconst (v := 0) hx hb dX11_loud_14 (by decide) ?_
  refine lv_lconst (v := 1) hx hb dX11_loud_15 (by decide) ?_
  obtain ⟨q, hq, hf⟩ := bd hf
  refine gcS_i (k := 0) (As := [.long v2.toInt64, .long 0, .long 1]) (rest := []) hx hb hml hown hts hK hSt hP hS hl.1 (goodS wm_10_21 wm_10_22 wm_1_5 wm_10_23) okX11_in (Nat.le_of_ble_eq_true rfl) (Nat.le_of_ble_eq_true rfl) rfl rfl (Nat.le_of_ble_eq_true rfl) dX11_loud_16 (kX11_in l D G ad had n  v2.toInt64 0 1 st q hq) (fun H locs hP hS => ?_)
  exact wX11_loud_s19 C n v1 v2 q.1 q.2 res hf H locs ls (lv_sub hl [0, 1, 2] rfl) hP hS
def fX11_loud_s9 (n : Nat)   (v1 : Int32) (v2 : Int32) (k0 : Int32) (st : St) : Option (Int64 × St) := if k0 = 0 then fX11_loud_s22 n st else fX11_loud_s12 n v1 v2 st
set_option maxHeartbeats 4000000 in
set_option maxRecDepth 100000 in
theorem wX11_loud_s9 (C : Cx p s m args meth c cX11_loud 8 wsL_law RX11 (some .long) D G ad) (n : Nat)   (v1 : Int32) (v2 : Int32) (k0 : Int32)   (st : St) (res : (Int64 × St))  (hf : fX11_loud_s9 n   v1 v2 k0 st = some res) : At p l e (rmK 4) s m args below meth c D G ad (MQJ D G ad below args s res) 8 st [(0, .ref (ad 130)), (1, .int v1), (2, .int v2)] 9 [.int k0] := by
  obtain ⟨hx, hb, hml, hown, hts, hr, hlk, hK, had, hSt⟩ := id C
  intro H locs ls hl hP hS
  unfold fX11_loud_s9 at hf
  refine lv_if_eq (tgt := 22) hx hb dX11_loud_9 (by decide) (fun q => ?_) (fun q => ?_)
  · exact wX11_loud_s22 C n st res (it hf q) H locs ls (lv_sub hl [] rfl) hP hS
  · exact wX11_loud_s12 C n v1 v2 st res (ie hf q) H locs ls (lv_sub hl [0, 1, 2] rfl) hP hS
def fX11_loud_s0 (n : Nat)   (v1 : Int32) (v2 : Int32) (st : St) : Option (Int64 × St) := (fX11_in n v1.toInt64 1 30 st).bind (fun q => fX11_loud_s9 n v1 v2 q.1 q.2)
set_option maxHeartbeats 4000000 in
set_option maxRecDepth 100000 in
theorem wX11_loud_s0 (C : Cx p s m args meth c cX11_loud 8 wsL_law RX11 (some .long) D G ad) (n : Nat)   (v1 : Int32) (v2 : Int32)   (st : St) (res : (Int64 × St))  (hf : fX11_loud_s0 n   v1 v2 st = some res) : At p l e (rmK 4) s m args below meth c D G ad (MQJ D G ad below args s res) 8 st [(0, .ref (ad 130)), (1, .int v1), (2, .int v2)] 0 [] := by
  obtain ⟨hx, hb, hml, hown, hts, hr, hlk, hK, had, hSt⟩ := id C
  intro H locs ls hl hP hS
  unfold fX11_loud_s0 at hf
  refine lv_iload_n hx hb dX11_loud_0 rfl (lv_at hl 1 rfl) ?_
  refine lv_i2l hx hb dX11_loud_1 rfl ?_
  refine lv_lconst (v := 1) hx hb dX11_loud_2 (by decide) ?_
  refine lv_ldc2 hx hb hown (hts _ wm_36_13) dX11_loud_3 ?_
  obtain ⟨q, hq, hf⟩ := bd hf
  refine gcS_i (k := 0) (As := [.long v1.toInt64, .long 1, .long 30]) (rest := []) hx hb hml hown hts hK hSt hP hS hl.1 (goodS wm_10_21 wm_10_22 wm_1_5 wm_10_23) okX11_in (Nat.le_of_ble_eq_true rfl) (Nat.le_of_ble_eq_true rfl) rfl rfl (Nat.le_of_ble_eq_true rfl) dX11_loud_6 (kX11_in l D G ad had n  v1.toInt64 1 30 st q hq) (fun H locs hP hS => ?_)
  exact wX11_loud_s9 C n v1 v2 q.1 q.2 res hf H locs ls (lv_sub hl [0, 1, 2] rfl) hP hS
def fX11_loud (n : Nat)  (a1 : Int32) (a2 : Int32) (st : St) : Option (Int64 × St) := fX11_loud_s0 n a1 a2 st
theorem okX11_loud : okY yX11_loud RX11 2 := by unfold okY; decide +kernel
end
set_option maxRecDepth 100000 in
theorem kX11_loud (l : Launch) (D : va_G) (G : G3) (ad : Nat → Nat) (had : Adr ad) (n : Nat)   (a1 : Int32) (a2 : Int32) (st : St) (res : (Int64 × St)) (hf : fX11_loud n  a1 a2 st = some res) {sz : Nat} : CtJ l yX11_loud (wsU yX11_loud cX11_loud 8 (some .long)) (rmK 4) D G ad sz [.ref (ad 130), .int a1, .int a2] st res := by
  refine Met.ofW (cc := cX11_loud) (maxL := 8) (ret := (some .long)) (by decide) rfl ?_
  intro p e s m args below meth c s₁ B hml hv
  obtain ⟨rfl, hsz, hP, hK, hSt⟩ := hv
  have hts := atoms_spec (ws := wsU yX11_loud cX11_loud 8 (some .long)) B.pre
  have C : Cx p s m _ meth c cX11_loud 8 wsL_law RX11 (some .long) D G ad := ⟨B.exec, B.bytes, hml, findClass_of_methodNamed B.named, fun w h => hts w (List.mem_cons_of_mem _ h), B.returns, B.notSynchronized, hK, had, hSt⟩
  subst hsz
  have hl := lv_entry ([.ref (ad 130), .int a1, .int a2]) (n := 8) (Nat.le_of_ble_eq_true rfl)
  rw [lg_entry_eq]
  generalize (lg_sl ([.ref (ad 130), .int a1, .int a2]) ++ List.replicate (8 - (lg_sl ([.ref (ad 130), .int a1, .int a2])).length) Slot.unset).toArray = ls at hl ⊢
  exact wX11_loud_s0 C n  a1 a2   st res hf s.heap [] ls (lv_sub hl [0, 1, 2] rfl) hP va_S.rf
