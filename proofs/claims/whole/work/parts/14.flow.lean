theorem wm_6_13 : Cond.fieldLink RX1 15 "OrderEcho$Flow" "slots" "[I" ∈ wsL_law := in_r6 _ (mm_at 13 rfl)
theorem wm_6_16 : Cond.fieldLink RX1 24 "OrderEcho$Flow" "owedTo" "[I" ∈ wsL_law := in_r6 _ (mm_at 16 rfl)
theorem wm_6_18 : Cond.fieldLink RX1 30 "OrderEcho$Flow" "sent" "[I" ∈ wsL_law := in_r6 _ (mm_at 18 rfl)
theorem wm_6_20 : Cond.fieldLink RX1 36 "OrderEcho$Flow" "ordered" "[I" ∈ wsL_law := in_r6 _ (mm_at 20 rfl)
theorem wm_6_21 : Cond.fieldLink RX1 39 "OrderEcho$Flow" "cost" "[J" ∈ wsL_law := in_r6 _ (mm_at 21 rfl)
theorem wm_9_21 : Cond.instanceMethod yX6_isShop ∈ wsL_law := in_r9 _ (mm_at 21 rfl)
theorem wm_9_22 : Cond.selects RX6 yX6_isShop yX6_isShop ∈ wsL_law := in_r9 _ (mm_at 22 rfl)
theorem wm_9_23 : Cond.code yX6_isShop cX6_isShop 2 (some .boolean) ∈ wsL_law := in_r9 _ (mm_at 23 rfl)
theorem wm_11_20 : Cond.instanceMethod yX7_has ∈ wsL_law := in_r11 _ (mm_at 20 rfl)
theorem wm_11_21 : Cond.selects RX7 yX7_has yX7_has ∈ wsL_law := in_r11 _ (mm_at 21 rfl)
theorem wm_11_22 : Cond.code yX7_has cX7_has 2 (some .boolean) ∈ wsL_law := in_r11 _ (mm_at 22 rfl)
theorem wm_17_17 : Cond.fieldLink RX1 57 "OrderEcho$Flow" "sold" "J" ∈ wsL_law := in_r17 _ (mm_at 17 rfl)
theorem wm_17_18 : Cond.fieldLink RX1 60 "OrderEcho$Plan" "stages" "I" ∈ wsL_law := in_r17 _ (mm_at 18 rfl)
theorem wm_17_19 : Cond.fieldLink RX1 77 "OrderEcho$Plan" "rule" "[I" ∈ wsL_law := in_r17 _ (mm_at 19 rfl)
theorem wm_17_20 : Cond.fieldLink RX1 94 "OrderEcho$Plan" "hold" "[I" ∈ wsL_law := in_r17 _ (mm_at 20 rfl)
theorem wm_17_21 : Cond.fieldLink RX1 97 "OrderEcho$Plan" "lack" "[I" ∈ wsL_law := in_r17 _ (mm_at 21 rfl)
theorem wm_17_22 : Cond.methodLink RX1 65 yX1_arrive ∈ wsL_law := in_r17 _ (mm_at 22 rfl)
theorem wm_17_23 : Cond.instanceMethod yX1_arrive ∈ wsL_law := in_r17 _ (mm_at 23 rfl)
theorem wm_18_0 : Cond.selects RX1 yX1_arrive yX1_arrive ∈ wsL_law := in_r18 _ (mm_at 0 rfl)
theorem wm_18_1 : Cond.code yX1_arrive cX1_arrive 4 none ∈ wsL_law := in_r18 _ (mm_at 1 rfl)
theorem wm_18_2 : Cond.methodLink RX1 43 arraycopyName ∈ wsL_law := in_r18 _ (mm_at 2 rfl)
theorem wm_18_6 : Cond.methodLink RX1 69 yX1_learn ∈ wsL_law := in_r18 _ (mm_at 6 rfl)
theorem wm_18_7 : Cond.instanceMethod yX1_learn ∈ wsL_law := in_r18 _ (mm_at 7 rfl)
theorem wm_18_8 : Cond.selects RX1 yX1_learn yX1_learn ∈ wsL_law := in_r18 _ (mm_at 8 rfl)
theorem wm_18_9 : Cond.code yX1_learn cX1_learn 9 none ∈ wsL_law := in_r18 _ (mm_at 9 rfl)
theorem wm_18_10 : Cond.fieldLink RX1 103 "OrderEcho$Plan" "supplier" "[I" ∈ wsL_law := in_r18 _ (mm_at 10 rfl)
theorem wm_18_11 : Cond.fieldLink RX1 106 "OrderEcho$Plan" "delay" "[I" ∈ wsL_law := in_r18 _ (mm_at 11 rfl)
theorem wm_18_12 : Cond.methodLink RX1 100 yX6_isShop ∈ wsL_law := in_r18 _ (mm_at 12 rfl)
theorem wm_18_13 : Cond.methodLink RX1 109 yX6_has ∈ wsL_law := in_r18 _ (mm_at 13 rfl)
theorem wm_18_14 : Cond.methodLink RX1 73 yX1_send ∈ wsL_law := in_r18 _ (mm_at 14 rfl)
theorem wm_18_15 : Cond.instanceMethod yX1_send ∈ wsL_law := in_r18 _ (mm_at 15 rfl)
theorem wm_18_16 : Cond.selects RX1 yX1_send yX1_send ∈ wsL_law := in_r18 _ (mm_at 16 rfl)
theorem wm_18_17 : Cond.code yX1_send cX1_send 6 none ∈ wsL_law := in_r18 _ (mm_at 17 rfl)
theorem wm_18_22 : Cond.fieldLink RX1 116 "OrderEcho$Share" "size" "I" ∈ wsL_law := in_r18 _ (mm_at 22 rfl)
theorem wm_18_23 : Cond.fieldLink RX1 124 "OrderEcho$Plan" "allotment" "I" ∈ wsL_law := in_r18 _ (mm_at 23 rfl)
theorem wm_19_0 : Cond.methodLink RX1 121 yX8_append ∈ wsL_law := in_r19 _ (mm_at 0 rfl)
theorem wm_19_1 : Cond.instanceMethod yX8_append ∈ wsL_law := in_r19 _ (mm_at 1 rfl)
theorem wm_19_2 : Cond.selects RX8 yX8_append yX8_append ∈ wsL_law := in_r19 _ (mm_at 2 rfl)
theorem wm_19_3 : Cond.code yX8_append cX8_append 2 none ∈ wsL_law := in_r19 _ (mm_at 3 rfl)
theorem wm_19_5 : Cond.methodLink RX1 127 yX8_split ∈ wsL_law := in_r19 _ (mm_at 5 rfl)
theorem wm_19_6 : Cond.instanceMethod yX8_split ∈ wsL_law := in_r19 _ (mm_at 6 rfl)
theorem wm_19_7 : Cond.selects RX8 yX8_split yX8_split ∈ wsL_law := in_r19 _ (mm_at 7 rfl)
theorem wm_19_8 : Cond.code yX8_split cX8_split 6 none ∈ wsL_law := in_r19 _ (mm_at 8 rfl)
theorem wm_20_2 : Cond.methodLink RX1 131 yX1_deliver ∈ wsL_law := in_r20 _ (mm_at 2 rfl)
theorem wm_20_3 : Cond.instanceMethod yX1_deliver ∈ wsL_law := in_r20 _ (mm_at 3 rfl)
theorem wm_20_4 : Cond.selects RX1 yX1_deliver yX1_deliver ∈ wsL_law := in_r20 _ (mm_at 4 rfl)
theorem wm_20_5 : Cond.code yX1_deliver cX1_deliver 8 (some .int) ∈ wsL_law := in_r20 _ (mm_at 5 rfl)
theorem wm_20_6 : Cond.fieldLink RX1 135 "OrderEcho$Share" "got" "[I" ∈ wsL_law := in_r20 _ (mm_at 6 rfl)
theorem wm_20_7 : Cond.methodLink RX1 138 yX1_putOnWay ∈ wsL_law := in_r20 _ (mm_at 7 rfl)
theorem wm_20_8 : Cond.instanceMethod yX1_putOnWay ∈ wsL_law := in_r20 _ (mm_at 8 rfl)
theorem wm_20_9 : Cond.selects RX1 yX1_putOnWay yX1_putOnWay ∈ wsL_law := in_r20 _ (mm_at 9 rfl)
theorem wm_20_10 : Cond.code yX1_putOnWay cX1_putOnWay 4 none ∈ wsL_law := in_r20 _ (mm_at 10 rfl)
theorem wm_20_11 : Cond.fieldLink RX1 141 "OrderEcho$Plan" "way" "[I" ∈ wsL_law := in_r20 _ (mm_at 11 rfl)
theorem wm_20_12 : Cond.methodLink RX1 80 yX7_has ∈ wsL_law := in_r20 _ (mm_at 12 rfl)
theorem wm_20_13 : Cond.methodLink RX1 86 yX7_valueOf ∈ wsL_law := in_r20 _ (mm_at 13 rfl)
theorem wm_20_14 : Cond.instanceMethod yX7_valueOf ∈ wsL_law := in_r20 _ (mm_at 14 rfl)
theorem wm_20_15 : Cond.selects RX7 yX7_valueOf yX7_valueOf ∈ wsL_law := in_r20 _ (mm_at 15 rfl)
theorem wm_20_16 : Cond.code yX7_valueOf cX7_valueOf 8 (some .long) ∈ wsL_law := in_r20 _ (mm_at 16 rfl)
theorem wm_21_20 : Cond.methodLink RX1 90 yX1_give ∈ wsL_law := in_r21 _ (mm_at 20 rfl)
theorem wm_21_21 : Cond.instanceMethod yX1_give ∈ wsL_law := in_r21 _ (mm_at 21 rfl)
theorem wm_21_22 : Cond.selects RX1 yX1_give yX1_give ∈ wsL_law := in_r21 _ (mm_at 22 rfl)
theorem wm_21_23 : Cond.code yX1_give cX1_give 10 none ∈ wsL_law := in_r21 _ (mm_at 23 rfl)
theorem wm_22_0 : Cond.fieldLink RX1 144 "OrderEcho$Plan" "lot" "[I" ∈ wsL_law := in_r22 _ (mm_at 0 rfl)
theorem wm_22_1 : Cond.methodLink RX1 150 Lib.MathLoose.max_long.x ∈ wsL_law := in_r22 _ (mm_at 1 rfl)
theorem wm_22_2 : Cond.fieldLink RX1 153 "OrderEcho$Plan" "cap" "[I" ∈ wsL_law := in_r22 _ (mm_at 2 rfl)
theorem wm_22_3 : Cond.methodLink RX1 156 Lib.MathLoose.min_long.x ∈ wsL_law := in_r22 _ (mm_at 3 rfl)
theorem wm_22_4 : Cond.fieldLink RX1 158 "OrderEcho$Plan" "kind" "[I" ∈ wsL_law := in_r22 _ (mm_at 4 rfl)
theorem wm_22_5 : Cond.fieldLink RX1 53 "OrderEcho$Flow" "made" "J" ∈ wsL_law := in_r22 _ (mm_at 5 rfl)
section
variable {p : Program} {l : Launch} {e : Env} {s : State} {m : MethodId} {args : Array Value} {below : List Frame} {meth : Method} {c : Code} {D : va_G} {G : G3} {ad : Nat → Nat}
def fX1_copy_s204 (n : Nat)  (b : Nat) (b1 : Nat)  (st : St) : Option (Unit × St) := some ((), st)
set_option maxHeartbeats 4000000 in
set_option maxRecDepth 100000 in
theorem wX1_copy_s204 (C : Cx p s m args meth c cX1_copy 2 wsL_law RX1 none D G ad) (n : Nat)  (b : Nat) (b1 : Nat)  (ib : isFl b) (ib1 : isFl b1)  (st : St) (res : (Unit × St))  (hf : fX1_copy_s204 n  b b1  st = some res) : At p l e (rmK 1) s m args below meth c D G ad (MQV D G ad below args s res) 2 st [] 204 [] := by
  obtain ⟨hx, hb, hml, hown, hts, hr, hlk, hK, had, hSt⟩ := id C
  intro H locs ls hl hP hS
  unfold fX1_copy_s204 at hf
  exact g_vret hx hb hr hlk hP hS dX1_copy_204 hf
def fX1_copy_s196 (n : Nat)  (b : Nat) (b1 : Nat)  (st : St) : Option (Unit × St) := fX1_copy_s204 n b b1 (setJ st b 12 (st.2 b1 12))
set_option maxHeartbeats 4000000 in
set_option maxRecDepth 100000 in
theorem wX1_copy_s196 (C : Cx p s m args meth c cX1_copy 2 wsL_law RX1 none D G ad) (n : Nat)  (b : Nat) (b1 : Nat)  (ib : isFl b) (ib1 : isFl b1)  (st : St) (res : (Unit × St))  (hf : fX1_copy_s196 n  b b1  st = some res) : At p l e (rmK 1) s m args below meth c D G ad (MQV D G ad below args s res) 2 st [(0, .ref (ad b)), (1, .ref (ad b1))] 196 [] := by
  obtain ⟨hx, hb, hml, hown, hts, hr, hlk, hK, had, hSt⟩ := id C
  intro H locs ls hl hP hS
  unfold fX1_copy_s196 at hf
  refine lv_aload_n hx hb dX1_copy_196 rfl (lv_at hl 0 rfl) ?_
  refine lv_aload_n hx hb dX1_copy_197 rfl (lv_at hl 1 rfl) ?_
  refine g_getJ hx hb hts inlX1 hown hK hP b1 (fl_0 ib1) rfl 12 (by decide) (hts _ wm_17_17) rfl dX1_copy_198 ?_
  refine g_putJ hx hb hts inlX1 tyX1_ok nmX1 hown hK had hP hS b (fl_0 ib) rfl 12 (by decide) (hts _ wm_17_17) rfl rfl rfl dX1_copy_201 (fun H locs hP hS => ?_)
  exact wX1_copy_s204 C n b b1 ib ib1 (setJ st b 12 (st.2 b1 12)) res hf H locs ls (lv_sub hl [] rfl) hP hS
def fX1_copy_s188 (n : Nat)  (b : Nat) (b1 : Nat)  (st : St) : Option (Unit × St) := fX1_copy_s196 n b b1 (setJ st b 11 (st.2 b1 11))
set_option maxHeartbeats 4000000 in
set_option maxRecDepth 100000 in
theorem wX1_copy_s188 (C : Cx p s m args meth c cX1_copy 2 wsL_law RX1 none D G ad) (n : Nat)  (b : Nat) (b1 : Nat)  (ib : isFl b) (ib1 : isFl b1)  (st : St) (res : (Unit × St))  (hf : fX1_copy_s188 n  b b1  st = some res) : At p l e (rmK 1) s m args below meth c D G ad (MQV D G ad below args s res) 2 st [(0, .ref (ad b)), (1, .ref (ad b1))] 188 [] := by
  obtain ⟨hx, hb, hml, hown, hts, hr, hlk, hK, had, hSt⟩ := id C
  intro H locs ls hl hP hS
  unfold fX1_copy_s188 at hf
  refine lv_aload_n hx hb dX1_copy_188 rfl (lv_at hl 0 rfl) ?_
  refine lv_aload_n hx hb dX1_copy_189 rfl (lv_at hl 1 rfl) ?_
  refine g_getJ hx hb hts inlX1 hown hK hP b1 (fl_0 ib1) rfl 11 (by decide) (hts _ wm_22_5) rfl dX1_copy_190 ?_
  refine g_putJ hx hb hts inlX1 tyX1_ok nmX1 hown hK had hP hS b (fl_0 ib) rfl 11 (by decide) (hts _ wm_22_5) rfl rfl rfl dX1_copy_193 (fun H locs hP hS => ?_)
  exact wX1_copy_s196 C n b b1 ib ib1 (setJ st b 11 (st.2 b1 11)) res hf H locs ls (lv_sub hl [0, 1] rfl) hP hS
def fX1_copy_s180 (n : Nat)  (b : Nat) (b1 : Nat)  (st : St) : Option (Unit × St) := fX1_copy_s188 n b b1 (setI st b 10 (st.1 b1 10))
set_option maxHeartbeats 4000000 in
set_option maxRecDepth 100000 in
theorem wX1_copy_s180 (C : Cx p s m args meth c cX1_copy 2 wsL_law RX1 none D G ad) (n : Nat)  (b : Nat) (b1 : Nat)  (ib : isFl b) (ib1 : isFl b1)  (st : St) (res : (Unit × St))  (hf : fX1_copy_s180 n  b b1  st = some res) : At p l e (rmK 1) s m args below meth c D G ad (MQV D G ad below args s res) 2 st [(0, .ref (ad b)), (1, .ref (ad b1))] 180 [] := by
  obtain ⟨hx, hb, hml, hown, hts, hr, hlk, hK, had, hSt⟩ := id C
  intro H locs ls hl hP hS
  unfold fX1_copy_s180 at hf
  refine lv_aload_n hx hb dX1_copy_180 rfl (lv_at hl 0 rfl) ?_
  refine lv_aload_n hx hb dX1_copy_181 rfl (lv_at hl 1 rfl) ?_
  refine g_getI hx hb hts inlX1 hown hK hP b1 (fl_0 ib1) rfl 10 (by decide) (hts _ wm_13_12) rfl dX1_copy_182 ?_
  refine g_putI hx hb hts inlX1 tyX1_ok nmX1 hown hK had hP hS b (fl_0 ib) rfl 10 (by decide) (hts _ wm_13_12) rfl rfl rfl rfl rfl dX1_copy_185 (fun H locs hP hS => ?_)
  exact wX1_copy_s188 C n b b1 ib ib1 (setI st b 10 (st.1 b1 10)) res hf H locs ls (lv_sub hl [0, 1] rfl) hP hS
def fX1_copy_s162 (n : Nat)  (b : Nat) (b1 : Nat)  (st : St) : Option (Unit × St) := if cpok 0 0 8 8 8 = true then (fX1_copy_s180 n b b1 (rowJ st (b + 10) (va_cpy (st.2 (b1 + 10)) (st.2 (b + 10)) (0 : Int32).toNatClampNeg (0 : Int32).toNatClampNeg (8 : Int32).toNatClampNeg))) else none
set_option maxHeartbeats 4000000 in
set_option maxRecDepth 100000 in
theorem wX1_copy_s162 (C : Cx p s m args meth c cX1_copy 2 wsL_law RX1 none D G ad) (n : Nat)  (b : Nat) (b1 : Nat)  (ib : isFl b) (ib1 : isFl b1)  (st : St) (res : (Unit × St))  (hf : fX1_copy_s162 n  b b1  st = some res) : At p l e (rmK 1) s m args below meth c D G ad (MQV D G ad below args s res) 2 st [(0, .ref (ad b)), (1, .ref (ad b1))] 162 [] := by
  obtain ⟨hx, hb, hml, hown, hts, hr, hlk, hK, had, hSt⟩ := id C
  intro H locs ls hl hP hS
  unfold fX1_copy_s162 at hf
  refine lv_aload_n hx hb dX1_copy_162 rfl (lv_at hl 1 rfl) ?_
  refine g_getR hx hb hts inlX1 hown hK hP b1 (fl_0 ib1) rfl 9 (by decide) (hts _ wm_6_21) rfl dX1_copy_163 ?_
  refine lv_iconst (v := 0) hx hb dX1_copy_166 (by decide) ?_
  refine lv_aload_n hx hb dX1_copy_167 rfl (lv_at hl 0 rfl) ?_
  refine g_getR hx hb hts inlX1 hown hK hP b (fl_0 ib) rfl 9 (by decide) (hts _ wm_6_21) rfl dX1_copy_168 ?_
  refine lv_iconst (v := 0) hx hb dX1_copy_171 (by decide) ?_
  refine lv_aload_n hx hb dX1_copy_172 rfl (lv_at hl 0 rfl) ?_
  refine g_getR hx hb hts inlX1 hown hK hP b (fl_0 ib) rfl 9 (by decide) (hts _ wm_6_21) rfl dX1_copy_173 ?_
  refine g_alen hx hb hK hP (b + 10) (fl_10 ib) dX1_copy_176 ?_
  refine lv_topc (v := 8) (by decide) ?_
  obtain ⟨g1, hf⟩ := gd hf
  refine g_copyJ hx hb (hml.trans hl.1.symm) hown (hts _ wm_18_2) (hts _ wm_18_3) (hts _ wm_18_4) (hts _ wm_18_5) hK had hP hS (b1 + 10) (fl_10 ib1) (b + 10) (fl_10 ib) g1 (Nat.le_of_ble_eq_true rfl) (Nat.le_of_ble_eq_true rfl) dX1_copy_177 (fun H locs hP hS => ?_)
  exact wX1_copy_s180 C n b b1 ib ib1 (rowJ st (b + 10) (va_cpy (st.2 (b1 + 10)) (st.2 (b + 10)) (0 : Int32).toNatClampNeg (0 : Int32).toNatClampNeg (8 : Int32).toNatClampNeg)) res hf H locs ls (lv_sub hl [0, 1] rfl) hP hS
def fX1_copy_s144 (n : Nat)  (b : Nat) (b1 : Nat)  (st : St) : Option (Unit × St) := if cpok 0 0 32 32 32 = true then (fX1_copy_s162 n b b1 (rowI st (b + 9) (va_cpy (st.1 (b1 + 9)) (st.1 (b + 9)) (0 : Int32).toNatClampNeg (0 : Int32).toNatClampNeg (32 : Int32).toNatClampNeg))) else none
set_option maxHeartbeats 4000000 in
set_option maxRecDepth 100000 in
theorem wX1_copy_s144 (C : Cx p s m args meth c cX1_copy 2 wsL_law RX1 none D G ad) (n : Nat)  (b : Nat) (b1 : Nat)  (ib : isFl b) (ib1 : isFl b1)  (st : St) (res : (Unit × St))  (hf : fX1_copy_s144 n  b b1  st = some res) : At p l e (rmK 1) s m args below meth c D G ad (MQV D G ad below args s res) 2 st [(0, .ref (ad b)), (1, .ref (ad b1))] 144 [] := by
  obtain ⟨hx, hb, hml, hown, hts, hr, hlk, hK, had, hSt⟩ := id C
  intro H locs ls hl hP hS
  unfold fX1_copy_s144 at hf
  refine lv_aload_n hx hb dX1_copy_144 rfl (lv_at hl 1 rfl) ?_
  refine g_getR hx hb hts inlX1 hown hK hP b1 (fl_0 ib1) rfl 8 (by decide) (hts _ wm_6_20) rfl dX1_copy_145 ?_
  refine lv_iconst (v := 0) hx hb dX1_copy_148 (by decide) ?_
  refine lv_aload_n hx hb dX1_copy_149 rfl (lv_at hl 0 rfl) ?_
  refine g_getR hx hb hts inlX1 hown hK hP b (fl_0 ib) rfl 8 (by decide) (hts _ wm_6_20) rfl dX1_copy_150 ?_
  refine lv_iconst (v := 0) hx hb dX1_copy_153 (by decide) ?_
  refine lv_aload_n hx hb dX1_copy_154 rfl (lv_at hl 0 rfl) ?_
  refine g_getR hx hb hts inlX1 hown hK hP b (fl_0 ib) rfl 8 (by decide) (hts _ wm_6_20) rfl dX1_copy_155 ?_
  refine g_alen hx hb hK hP (b + 9) (fl_9 ib) dX1_copy_158 ?_
  refine lv_topc (v := 32) (by decide) ?_
  obtain ⟨g1, hf⟩ := gd hf
  refine g_copyI hx hb (hml.trans hl.1.symm) hown (hts _ wm_18_2) (hts _ wm_18_3) (hts _ wm_18_4) (hts _ wm_18_5) hK had hP hS (b1 + 9) (fl_9 ib1) (b + 9) (fl_9 ib) g1 (Nat.le_of_ble_eq_true rfl) (Nat.le_of_ble_eq_true rfl) dX1_copy_159 (fun H locs hP hS => ?_)
  exact wX1_copy_s162 C n b b1 ib ib1 (rowI st (b + 9) (va_cpy (st.1 (b1 + 9)) (st.1 (b + 9)) (0 : Int32).toNatClampNeg (0 : Int32).toNatClampNeg (32 : Int32).toNatClampNeg)) res hf H locs ls (lv_sub hl [0, 1] rfl) hP hS
def fX1_copy_s126 (n : Nat)  (b : Nat) (b1 : Nat)  (st : St) : Option (Unit × St) := if cpok 0 0 32 32 32 = true then (fX1_copy_s144 n b b1 (rowI st (b + 8) (va_cpy (st.1 (b1 + 8)) (st.1 (b + 8)) (0 : Int32).toNatClampNeg (0 : Int32).toNatClampNeg (32 : Int32).toNatClampNeg))) else none
set_option maxHeartbeats 4000000 in
set_option maxRecDepth 100000 in
theorem wX1_copy_s126 (C : Cx p s m args meth c cX1_copy 2 wsL_law RX1 none D G ad) (n : Nat)  (b : Nat) (b1 : Nat)  (ib : isFl b) (ib1 : isFl b1)  (st : St) (res : (Unit × St))  (hf : fX1_copy_s126 n  b b1  st = some res) : At p l e (rmK 1) s m args below meth c D G ad (MQV D G ad below args s res) 2 st [(0, .ref (ad b)), (1, .ref (ad b1))] 126 [] := by
  obtain ⟨hx, hb, hml, hown, hts, hr, hlk, hK, had, hSt⟩ := id C
  intro H locs ls hl hP hS
  unfold fX1_copy_s126 at hf
  refine lv_aload_n hx hb dX1_copy_126 rfl (lv_at hl 1 rfl) ?_
  refine g_getR hx hb hts inlX1 hown hK hP b1 (fl_0 ib1) rfl 7 (by decide) (hts _ wm_6_19) rfl dX1_copy_127 ?_
  refine lv_iconst (v := 0) hx hb dX1_copy_130 (by decide) ?_
  refine lv_aload_n hx hb dX1_copy_131 rfl (lv_at hl 0 rfl) ?_
  refine g_getR hx hb hts inlX1 hown hK hP b (fl_0 ib) rfl 7 (by decide) (hts _ wm_6_19) rfl dX1_copy_132 ?_
  refine lv_iconst (v := 0) hx hb dX1_copy_135 (by decide) ?_
  refine lv_aload_n hx hb dX1_copy_136 rfl (lv_at hl 0 rfl) ?_
  refine g_getR hx hb hts inlX1 hown hK hP b (fl_0 ib) rfl 7 (by decide) (hts _ wm_6_19) rfl dX1_copy_137 ?_
  refine g_alen hx hb hK hP (b + 8) (fl_8 ib) dX1_copy_140 ?_
  refine lv_topc (v := 32) (by decide) ?_
  obtain ⟨g1, hf⟩ := gd hf
  refine g_copyI hx hb (hml.trans hl.1.symm) hown (hts _ wm_18_2) (hts _ wm_18_3) (hts _ wm_18_4) (hts _ wm_18_5) hK had hP hS (b1 + 8) (fl_8 ib1) (b + 8) (fl_8 ib) g1 (Nat.le_of_ble_eq_true rfl) (Nat.le_of_ble_eq_true rfl) dX1_copy_141 (fun H locs hP hS => ?_)
  exact wX1_copy_s144 C n b b1 ib ib1 (rowI st (b + 8) (va_cpy (st.1 (b1 + 8)) (st.1 (b + 8)) (0 : Int32).toNatClampNeg (0 : Int32).toNatClampNeg (32 : Int32).toNatClampNeg)) res hf H locs ls (lv_sub hl [0, 1] rfl) hP hS
def fX1_copy_s108 (n : Nat)  (b : Nat) (b1 : Nat)  (st : St) : Option (Unit × St) := if cpok 0 0 8 8 8 = true then (fX1_copy_s126 n b b1 (rowI st (b + 7) (va_cpy (st.1 (b1 + 7)) (st.1 (b + 7)) (0 : Int32).toNatClampNeg (0 : Int32).toNatClampNeg (8 : Int32).toNatClampNeg))) else none
set_option maxHeartbeats 4000000 in
set_option maxRecDepth 100000 in
theorem wX1_copy_s108 (C : Cx p s m args meth c cX1_copy 2 wsL_law RX1 none D G ad) (n : Nat)  (b : Nat) (b1 : Nat)  (ib : isFl b) (ib1 : isFl b1)  (st : St) (res : (Unit × St))  (hf : fX1_copy_s108 n  b b1  st = some res) : At p l e (rmK 1) s m args below meth c D G ad (MQV D G ad below args s res) 2 st [(0, .ref (ad b)), (1, .ref (ad b1))] 108 [] := by
  obtain ⟨hx, hb, hml, hown, hts, hr, hlk, hK, had, hSt⟩ := id C
  intro H locs ls hl hP hS
  unfold fX1_copy_s108 at hf
  refine lv_aload_n hx hb dX1_copy_108 rfl (lv_at hl 1 rfl) ?_
  refine g_getR hx hb hts inlX1 hown hK hP b1 (fl_0 ib1) rfl 6 (by decide) (hts _ wm_6_18) rfl dX1_copy_109 ?_
  refine lv_iconst (v := 0) hx hb dX1_copy_112 (by decide) ?_
  refine lv_aload_n hx hb dX1_copy_113 rfl (lv_at hl 0 rfl) ?_
  refine g_getR hx hb hts inlX1 hown hK hP b (fl_0 ib) rfl 6 (by decide) (hts _ wm_6_18) rfl dX1_copy_114 ?_
  refine lv_iconst (v := 0) hx hb dX1_copy_117 (by decide) ?_
  refine lv_aload_n hx hb dX1_copy_118 rfl (lv_at hl 0 rfl) ?_
  refine g_getR hx hb hts inlX1 hown hK hP b (fl_0 ib) rfl 6 (by decide) (hts _ wm_6_18) rfl dX1_copy_119 ?_
  refine g_alen hx hb hK hP (b + 7) (fl_7 ib) dX1_copy_122 ?_
  refine lv_topc (v := 8) (by decide) ?_
  obtain ⟨g1, hf⟩ := gd hf
  refine g_copyI hx hb (hml.trans hl.1.symm) hown (hts _ wm_18_2) (hts _ wm_18_3) (hts _ wm_18_4) (hts _ wm_18_5) hK had hP hS (b1 + 7) (fl_7 ib1) (b + 7) (fl_7 ib) g1 (Nat.le_of_ble_eq_true rfl) (Nat.le_of_ble_eq_true rfl) dX1_copy_123 (fun H locs hP hS => ?_)
  exact wX1_copy_s126 C n b b1 ib ib1 (rowI st (b + 7) (va_cpy (st.1 (b1 + 7)) (st.1 (b + 7)) (0 : Int32).toNatClampNeg (0 : Int32).toNatClampNeg (8 : Int32).toNatClampNeg)) res hf H locs ls (lv_sub hl [0, 1] rfl) hP hS
def fX1_copy_s90 (n : Nat)  (b : Nat) (b1 : Nat)  (st : St) : Option (Unit × St) := if cpok 0 0 8 8 8 = true then (fX1_copy_s108 n b b1 (rowI st (b + 6) (va_cpy (st.1 (b1 + 6)) (st.1 (b + 6)) (0 : Int32).toNatClampNeg (0 : Int32).toNatClampNeg (8 : Int32).toNatClampNeg))) else none
set_option maxHeartbeats 4000000 in
set_option maxRecDepth 100000 in
theorem wX1_copy_s90 (C : Cx p s m args meth c cX1_copy 2 wsL_law RX1 none D G ad) (n : Nat)  (b : Nat) (b1 : Nat)  (ib : isFl b) (ib1 : isFl b1)  (st : St) (res : (Unit × St))  (hf : fX1_copy_s90 n  b b1  st = some res) : At p l e (rmK 1) s m args below meth c D G ad (MQV D G ad below args s res) 2 st [(0, .ref (ad b)), (1, .ref (ad b1))] 90 [] := by
  obtain ⟨hx, hb, hml, hown, hts, hr, hlk, hK, had, hSt⟩ := id C
  intro H locs ls hl hP hS
  unfold fX1_copy_s90 at hf
  refine lv_aload_n hx hb dX1_copy_90 rfl (lv_at hl 1 rfl) ?_
  refine g_getR hx hb hts inlX1 hown hK hP b1 (fl_0 ib1) rfl 5 (by decide) (hts _ wm_6_17) rfl dX1_copy_91 ?_
  refine lv_iconst (v := 0) hx hb dX1_copy_94 (by decide) ?_
  refine lv_aload_n hx hb dX1_copy_95 rfl (lv_at hl 0 rfl) ?_
  refine g_getR hx hb hts inlX1 hown hK hP b (fl_0 ib) rfl 5 (by decide) (hts _ wm_6_17) rfl dX1_copy_96 ?_
  refine lv_iconst (v := 0) hx hb dX1_copy_99 (by decide) ?_
  refine lv_aload_n hx hb dX1_copy_100 rfl (lv_at hl 0 rfl) ?_
  refine g_getR hx hb hts inlX1 hown hK hP b (fl_0 ib) rfl 5 (by decide) (hts _ wm_6_17) rfl dX1_copy_101 ?_
  refine g_alen hx hb hK hP (b + 6) (fl_6 ib) dX1_copy_104 ?_
  refine lv_topc (v := 8) (by decide) ?_
  obtain ⟨g1, hf⟩ := gd hf
  refine g_copyI hx hb (hml.trans hl.1.symm) hown (hts _ wm_18_2) (hts _ wm_18_3) (hts _ wm_18_4) (hts _ wm_18_5) hK had hP hS (b1 + 6) (fl_6 ib1) (b + 6) (fl_6 ib) g1 (Nat.le_of_ble_eq_true rfl) (Nat.le_of_ble_eq_true rfl) dX1_copy_105 (fun H locs hP hS => ?_)
  exact wX1_copy_s108 C n b b1 ib ib1 (rowI st (b + 6) (va_cpy (st.1 (b1 + 6)) (st.1 (b + 6)) (0 : Int32).toNatClampNeg (0 : Int32).toNatClampNeg (8 : Int32).toNatClampNeg)) res hf H locs ls (lv_sub hl [0, 1] rfl) hP hS
def fX1_copy_s72 (n : Nat)  (b : Nat) (b1 : Nat)  (st : St) : Option (Unit × St) := if cpok 0 0 8 8 8 = true then (fX1_copy_s90 n b b1 (rowI st (b + 5) (va_cpy (st.1 (b1 + 5)) (st.1 (b + 5)) (0 : Int32).toNatClampNeg (0 : Int32).toNatClampNeg (8 : Int32).toNatClampNeg))) else none
set_option maxHeartbeats 4000000 in
set_option maxRecDepth 100000 in
theorem wX1_copy_s72 (C : Cx p s m args meth c cX1_copy 2 wsL_law RX1 none D G ad) (n : Nat)  (b : Nat) (b1 : Nat)  (ib : isFl b) (ib1 : isFl b1)  (st : St) (res : (Unit × St))  (hf : fX1_copy_s72 n  b b1  st = some res) : At p l e (rmK 1) s m args below meth c D G ad (MQV D G ad below args s res) 2 st [(0, .ref (ad b)), (1, .ref (ad b1))] 72 [] := by
  obtain ⟨hx, hb, hml, hown, hts, hr, hlk, hK, had, hSt⟩ := id C
  intro H locs ls hl hP hS
  unfold fX1_copy_s72 at hf
  refine lv_aload_n hx hb dX1_copy_72 rfl (lv_at hl 1 rfl) ?_
  refine g_getR hx hb hts inlX1 hown hK hP b1 (fl_0 ib1) rfl 4 (by decide) (hts _ wm_6_16) rfl dX1_copy_73 ?_
  refine lv_iconst (v := 0) hx hb dX1_copy_76 (by decide) ?_
  refine lv_aload_n hx hb dX1_copy_77 rfl (lv_at hl 0 rfl) ?_
  refine g_getR hx hb hts inlX1 hown hK hP b (fl_0 ib) rfl 4 (by decide) (hts _ wm_6_16) rfl dX1_copy_78 ?_
  refine lv_iconst (v := 0) hx hb dX1_copy_81 (by decide) ?_
  refine lv_aload_n hx hb dX1_copy_82 rfl (lv_at hl 0 rfl) ?_
  refine g_getR hx hb hts inlX1 hown hK hP b (fl_0 ib) rfl 4 (by decide) (hts _ wm_6_16) rfl dX1_copy_83 ?_
  refine g_alen hx hb hK hP (b + 5) (fl_5 ib) dX1_copy_86 ?_
  refine lv_topc (v := 8) (by decide) ?_
  obtain ⟨g1, hf⟩ := gd hf
  refine g_copyI hx hb (hml.trans hl.1.symm) hown (hts _ wm_18_2) (hts _ wm_18_3) (hts _ wm_18_4) (hts _ wm_18_5) hK had hP hS (b1 + 5) (fl_5 ib1) (b + 5) (fl_5 ib) g1 (Nat.le_of_ble_eq_true rfl) (Nat.le_of_ble_eq_true rfl) dX1_copy_87 (fun H locs hP hS => ?_)
  exact wX1_copy_s90 C n b b1 ib ib1 (rowI st (b + 5) (va_cpy (st.1 (b1 + 5)) (st.1 (b + 5)) (0 : Int32).toNatClampNeg (0 : Int32).toNatClampNeg (8 : Int32).toNatClampNeg)) res hf H locs ls (lv_sub hl [0, 1] rfl) hP hS
def fX1_copy_s54 (n : Nat)  (b : Nat) (b1 : Nat)  (st : St) : Option (Unit × St) := if cpok 0 0 8 8 8 = true then (fX1_copy_s72 n b b1 (rowI st (b + 4) (va_cpy (st.1 (b1 + 4)) (st.1 (b + 4)) (0 : Int32).toNatClampNeg (0 : Int32).toNatClampNeg (8 : Int32).toNatClampNeg))) else none
set_option maxHeartbeats 4000000 in
set_option maxRecDepth 100000 in
theorem wX1_copy_s54 (C : Cx p s m args meth c cX1_copy 2 wsL_law RX1 none D G ad) (n : Nat)  (b : Nat) (b1 : Nat)  (ib : isFl b) (ib1 : isFl b1)  (st : St) (res : (Unit × St))  (hf : fX1_copy_s54 n  b b1  st = some res) : At p l e (rmK 1) s m args below meth c D G ad (MQV D G ad below args s res) 2 st [(0, .ref (ad b)), (1, .ref (ad b1))] 54 [] := by
  obtain ⟨hx, hb, hml, hown, hts, hr, hlk, hK, had, hSt⟩ := id C
  intro H locs ls hl hP hS
  unfold fX1_copy_s54 at hf
  refine lv_aload_n hx hb dX1_copy_54 rfl (lv_at hl 1 rfl) ?_
  refine g_getR hx hb hts inlX1 hown hK hP b1 (fl_0 ib1) rfl 3 (by decide) (hts _ wm_6_15) rfl dX1_copy_55 ?_
  refine lv_iconst (v := 0) hx hb dX1_copy_58 (by decide) ?_
  refine lv_aload_n hx hb dX1_copy_59 rfl (lv_at hl 0 rfl) ?_
  refine g_getR hx hb hts inlX1 hown hK hP b (fl_0 ib) rfl 3 (by decide) (hts _ wm_6_15) rfl dX1_copy_60 ?_
  refine lv_iconst (v := 0) hx hb dX1_copy_63 (by decide) ?_
  refine lv_aload_n hx hb dX1_copy_64 rfl (lv_at hl 0 rfl) ?_
  refine g_getR hx hb hts inlX1 hown hK hP b (fl_0 ib) rfl 3 (by decide) (hts _ wm_6_15) rfl dX1_copy_65 ?_
  refine g_alen hx hb hK hP (b + 4) (fl_4 ib) dX1_copy_68 ?_
  refine lv_topc (v := 8) (by decide) ?_
  obtain ⟨g1, hf⟩ := gd hf
  refine g_copyI hx hb (hml.trans hl.1.symm) hown (hts _ wm_18_2) (hts _ wm_18_3) (hts _ wm_18_4) (hts _ wm_18_5) hK had hP hS (b1 + 4) (fl_4 ib1) (b + 4) (fl_4 ib) g1 (Nat.le_of_ble_eq_true rfl) (Nat.le_of_ble_eq_true rfl) dX1_copy_69 (fun H locs hP hS => ?_)
  exact wX1_copy_s72 C n b b1 ib ib1 (rowI st (b + 4) (va_cpy (st.1 (b1 + 4)) (st.1 (b + 4)) (0 : Int32).toNatClampNeg (0 : Int32).toNatClampNeg (8 : Int32).toNatClampNeg)) res hf H locs ls (lv_sub hl [0, 1] rfl) hP hS
def fX1_copy_s36 (n : Nat)  (b : Nat) (b1 : Nat)  (st : St) : Option (Unit × St) := if cpok 0 0 8 8 8 = true then (fX1_copy_s54 n b b1 (rowI st (b + 3) (va_cpy (st.1 (b1 + 3)) (st.1 (b + 3)) (0 : Int32).toNatClampNeg (0 : Int32).toNatClampNeg (8 : Int32).toNatClampNeg))) else none
set_option maxHeartbeats 4000000 in
set_option maxRecDepth 100000 in
theorem wX1_copy_s36 (C : Cx p s m args meth c cX1_copy 2 wsL_law RX1 none D G ad) (n : Nat)  (b : Nat) (b1 : Nat)  (ib : isFl b) (ib1 : isFl b1)  (st : St) (res : (Unit × St))  (hf : fX1_copy_s36 n  b b1  st = some res) : At p l e (rmK 1) s m args below meth c D G ad (MQV D G ad below args s res) 2 st [(0, .ref (ad b)), (1, .ref (ad b1))] 36 [] := by
  obtain ⟨hx, hb, hml, hown, hts, hr, hlk, hK, had, hSt⟩ := id C
  intro H locs ls hl hP hS
  unfold fX1_copy_s36 at hf
  refine lv_aload_n hx hb dX1_copy_36 rfl (lv_at hl 1 rfl) ?_
  refine g_getR hx hb hts inlX1 hown hK hP b1 (fl_0 ib1) rfl 2 (by decide) (hts _ wm_6_14) rfl dX1_copy_37 ?_
  refine lv_iconst (v := 0) hx hb dX1_copy_40 (by decide) ?_
  refine lv_aload_n hx hb dX1_copy_41 rfl (lv_at hl 0 rfl) ?_
  refine g_getR hx hb hts inlX1 hown hK hP b (fl_0 ib) rfl 2 (by decide) (hts _ wm_6_14) rfl dX1_copy_42 ?_
  refine lv_iconst (v := 0) hx hb dX1_copy_45 (by decide) ?_
  refine lv_aload_n hx hb dX1_copy_46 rfl (lv_at hl 0 rfl) ?_
  refine g_getR hx hb hts inlX1 hown hK hP b (fl_0 ib) rfl 2 (by decide) (hts _ wm_6_14) rfl dX1_copy_47 ?_
  refine g_alen hx hb hK hP (b + 3) (fl_3 ib) dX1_copy_50 ?_
  refine lv_topc (v := 8) (by decide) ?_
  obtain ⟨g1, hf⟩ := gd hf
  refine g_copyI hx hb (hml.trans hl.1.symm) hown (hts _ wm_18_2) (hts _ wm_18_3) (hts _ wm_18_4) (hts _ wm_18_5) hK had hP hS (b1 + 3) (fl_3 ib1) (b + 3) (fl_3 ib) g1 (Nat.le_of_ble_eq_true rfl) (Nat.le_of_ble_eq_true rfl) dX1_copy_51 (fun H locs hP hS => ?_)
  exact wX1_copy_s54 C n b b1 ib ib1 (rowI st (b + 3) (va_cpy (st.1 (b1 + 3)) (st.1 (b + 3)) (0 : Int32).toNatClampNeg (0 : Int32).toNatClampNeg (8 : Int32).toNatClampNeg)) res hf H locs ls (lv_sub hl [0, 1] rfl) hP hS
def fX1_copy_s18 (n : Nat)  (b : Nat) (b1 : Nat)  (st : St) : Option (Unit × St) := if cpok 0 0 48 48 48 = true then (fX1_copy_s36 n b b1 (rowI st (b + 2) (va_cpy (st.1 (b1 + 2)) (st.1 (b + 2)) (0 : Int32).toNatClampNeg (0 : Int32).toNatClampNeg (48 : Int32).toNatClampNeg))) else none
set_option maxHeartbeats 4000000 in
set_option maxRecDepth 100000 in
theorem wX1_copy_s18 (C : Cx p s m args meth c cX1_copy 2 wsL_law RX1 none D G ad) (n : Nat)  (b : Nat) (b1 : Nat)  (ib : isFl b) (ib1 : isFl b1)  (st : St) (res : (Unit × St))  (hf : fX1_copy_s18 n  b b1  st = some res) : At p l e (rmK 1) s m args below meth c D G ad (MQV D G ad below args s res) 2 st [(0, .ref (ad b)), (1, .ref (ad b1))] 18 [] := by
  obtain ⟨hx, hb, hml, hown, hts, hr, hlk, hK, had, hSt⟩ := id C
  intro H locs ls hl hP hS
  unfold fX1_copy_s18 at hf
  refine lv_aload_n hx hb dX1_copy_18 rfl (lv_at hl 1 rfl) ?_
  refine g_getR hx hb hts inlX1 hown hK hP b1 (fl_0 ib1) rfl 1 (by decide) (hts _ wm_6_13) rfl dX1_copy_19 ?_
  refine lv_iconst (v := 0) hx hb dX1_copy_22 (by decide) ?_
  refine lv_aload_n hx hb dX1_copy_23 rfl (lv_at hl 0 rfl) ?_
  refine g_getR hx hb hts inlX1 hown hK hP b (fl_0 ib) rfl 1 (by decide) (hts _ wm_6_13) rfl dX1_copy_24 ?_
  refine lv_iconst (v := 0) hx hb dX1_copy_27 (by decide) ?_
  refine lv_aload_n hx hb dX1_copy_28 rfl (lv_at hl 0 rfl) ?_
  refine g_getR hx hb hts inlX1 hown hK hP b (fl_0 ib) rfl 1 (by decide) (hts _ wm_6_13) rfl dX1_copy_29 ?_
  refine g_alen hx hb hK hP (b + 2) (fl_2 ib) dX1_copy_32 ?_
  refine lv_topc (v := 48) (by decide) ?_
  obtain ⟨g1, hf⟩ := gd hf
  refine g_copyI hx hb (hml.trans hl.1.symm) hown (hts _ wm_18_2) (hts _ wm_18_3) (hts _ wm_18_4) (hts _ wm_18_5) hK had hP hS (b1 + 2) (fl_2 ib1) (b + 2) (fl_2 ib) g1 (Nat.le_of_ble_eq_true rfl) (Nat.le_of_ble_eq_true rfl) dX1_copy_33 (fun H locs hP hS => ?_)
  exact wX1_copy_s36 C n b b1 ib ib1 (rowI st (b + 2) (va_cpy (st.1 (b1 + 2)) (st.1 (b + 2)) (0 : Int32).toNatClampNeg (0 : Int32).toNatClampNeg (48 : Int32).toNatClampNeg)) res hf H locs ls (lv_sub hl [0, 1] rfl) hP hS
def fX1_copy_s0 (n : Nat)  (b : Nat) (b1 : Nat)  (st : St) : Option (Unit × St) := if cpok 0 0 8 8 8 = true then (fX1_copy_s18 n b b1 (rowI st (b + 1) (va_cpy (st.1 (b1 + 1)) (st.1 (b + 1)) (0 : Int32).toNatClampNeg (0 : Int32).toNatClampNeg (8 : Int32).toNatClampNeg))) else none
set_option maxHeartbeats 4000000 in
set_option maxRecDepth 100000 in
theorem wX1_copy_s0 (C : Cx p s m args meth c cX1_copy 2 wsL_law RX1 none D G ad) (n : Nat)  (b : Nat) (b1 : Nat)  (ib : isFl b) (ib1 : isFl b1)  (st : St) (res : (Unit × St))  (hf : fX1_copy_s0 n  b b1  st = some res) : At p l e (rmK 1) s m args below meth c D G ad (MQV D G ad below args s res) 2 st [(0, .ref (ad b)), (1, .ref (ad b1))] 0 [] := by
  obtain ⟨hx, hb, hml, hown, hts, hr, hlk, hK, had, hSt⟩ := id C
  intro H locs ls hl hP hS
  unfold fX1_copy_s0 at hf
  refine lv_aload_n hx hb dX1_copy_0 rfl (lv_at hl 1 rfl) ?_
  refine g_getR hx hb hts inlX1 hown hK hP b1 (fl_0 ib1) rfl 0 (by decide) (hts _ wm_6_12) rfl dX1_copy_1 ?_
  refine lv_iconst (v := 0) hx hb dX1_copy_4 (by decide) ?_
  refine lv_aload_n hx hb dX1_copy_5 rfl (lv_at hl 0 rfl) ?_
  refine g_getR hx hb hts inlX1 hown hK hP b (fl_0 ib) rfl 0 (by decide) (hts _ wm_6_12) rfl dX1_copy_6 ?_
  refine lv_iconst (v := 0) hx hb dX1_copy_9 (by decide) ?_
  refine lv_aload_n hx hb dX1_copy_10 rfl (lv_at hl 0 rfl) ?_
  refine g_getR hx hb hts inlX1 hown hK hP b (fl_0 ib) rfl 0 (by decide) (hts _ wm_6_12) rfl dX1_copy_11 ?_
  refine g_alen hx hb hK hP (b + 1) (fl_1 ib) dX1_copy_14 ?_
  refine lv_topc (v := 8) (by decide) ?_
  obtain ⟨g1, hf⟩ := gd hf
  refine g_copyI hx hb (hml.trans hl.1.symm) hown (hts _ wm_18_2) (hts _ wm_18_3) (hts _ wm_18_4) (hts _ wm_18_5) hK had hP hS (b1 + 1) (fl_1 ib1) (b + 1) (fl_1 ib) g1 (Nat.le_of_ble_eq_true rfl) (Nat.le_of_ble_eq_true rfl) dX1_copy_15 (fun H locs hP hS => ?_)
  exact wX1_copy_s18 C n b b1 ib ib1 (rowI st (b + 1) (va_cpy (st.1 (b1 + 1)) (st.1 (b + 1)) (0 : Int32).toNatClampNeg (0 : Int32).toNatClampNeg (8 : Int32).toNatClampNeg)) res hf H locs ls (lv_sub hl [0, 1] rfl) hP hS
def fX1_copy (n : Nat) (b : Nat) (b1 : Nat)  (st : St) : Option (Unit × St) := fX1_copy_s0 n b b1 st
theorem okX1_copy : okY yX1_copy RX1 1 := by unfold okY; decide +kernel
end
set_option maxRecDepth 100000 in
theorem kX1_copy (l : Launch) (D : va_G) (G : G3) (ad : Nat → Nat) (had : Adr ad) (n : Nat) (b : Nat) (b1 : Nat) (ib : isFl b) (ib1 : isFl b1)  (st : St) (res : (Unit × St)) (hf : fX1_copy n b b1  st = some res) {sz : Nat} : CtV l yX1_copy (wsU yX1_copy cX1_copy 2 none) (rmK 1) D G ad sz [.ref (ad b), .ref (ad b1)] st res := by
  refine Met.ofW (cc := cX1_copy) (maxL := 2) (ret := none) (by decide) rfl ?_
  intro p e s m args below meth c s₁ B hml hv
  obtain ⟨rfl, hsz, hP, hK, hSt⟩ := hv
  have hts := atoms_spec (ws := wsU yX1_copy cX1_copy 2 none) B.pre
  have C : Cx p s m _ meth c cX1_copy 2 wsL_law RX1 none D G ad := ⟨B.exec, B.bytes, hml, findClass_of_methodNamed B.named, fun w h => hts w (List.mem_cons_of_mem _ h), B.returns, B.notSynchronized, hK, had, hSt⟩
  subst hsz
  have hl := lv_entry ([.ref (ad b), .ref (ad b1)]) (n := 2) (Nat.le_of_ble_eq_true rfl)
  rw [lg_entry_eq]
  generalize (lg_sl ([.ref (ad b), .ref (ad b1)]) ++ List.replicate (2 - (lg_sl ([.ref (ad b), .ref (ad b1)])).length) Slot.unset).toArray = ls at hl ⊢
  exact wX1_copy_s0 C n b b1  ib ib1  st res hf s.heap [] ls (lv_sub hl [0, 1] rfl) hP va_S.rf
section
variable {p : Program} {l : Launch} {e : Env} {s : State} {m : MethodId} {args : Array Value} {below : List Frame} {meth : Method} {c : Code} {D : va_G} {G : G3} {ad : Nat → Nat}
def fX1_arrive_s60 (n : Nat)  (b : Nat)  (st : St) : Option (Unit × St) := some ((), st)
set_option maxHeartbeats 4000000 in
set_option maxRecDepth 100000 in
theorem wX1_arrive_s60 (C : Cx p s m args meth c cX1_arrive 4 wsL_law RX1 none D G ad) (n : Nat)  (b : Nat)  (ib : isFl b)  (st : St) (res : (Unit × St))  (hf : fX1_arrive_s60 n  b  st = some res) : At p l e (rmK 1) s m args below meth c D G ad (MQV D G ad below args s res) 4 st [] 60 [] := by
  obtain ⟨hx, hb, hml, hown, hts, hr, hlk, hK, had, hSt⟩ := id C
  intro H locs ls hl hP hS
  unfold fX1_arrive_s60 at hf
  exact g_vret hx hb hr hlk hP hS dX1_arrive_60 hf
def fX1_arrive_s50 (n : Nat)  (b : Nat) (v1 : Int32) (v3 : Int32) (st : St) : Option (Unit × St) := if inb v1 8 = true then (if inb v1 8 = true then (fX1_arrive_s60 n b (setI st (b + 3) v1.toNatClampNeg ((st.1 (b + 3) v1.toNatClampNeg) - v3))) else none) else none
set_option maxHeartbeats 4000000 in
set_option maxRecDepth 100000 in
theorem wX1_arrive_s50 (C : Cx p s m args meth c cX1_arrive 4 wsL_law RX1 none D G ad) (n : Nat)  (b : Nat) (v1 : Int32) (v3 : Int32) (ib : isFl b)  (st : St) (res : (Unit × St))  (hf : fX1_arrive_s50 n  b v1 v3 st = some res) : At p l e (rmK 1) s m args below meth c D G ad (MQV D G ad below args s res) 4 st [(0, .ref (ad b)), (1, .int v1), (3, .int v3)] 50 [] := by
  obtain ⟨hx, hb, hml, hown, hts, hr, hlk, hK, had, hSt⟩ := id C
  intro H locs ls hl hP hS
  unfold fX1_arrive_s50 at hf
  refine lv_aload_n hx hb dX1_arrive_50 rfl (lv_at hl 0 rfl) ?_
  refine g_getR hx hb hts inlX1 hown hK hP b (fl_0 ib) rfl 2 (by decide) (hts _ wm_6_14) rfl dX1_arrive_51 ?_
  refine lv_iload_n hx hb dX1_arrive_54 rfl (lv_at hl 1 rfl) ?_
  refine lv_dup2_11 hx hb dX1_arrive_55 rfl rfl ?_
  obtain ⟨g1, hf⟩ := gd hf
  refine g_iald hx hb hK hP (b + 3) (fl_3 ib) g1 dX1_arrive_56 ?_
  refine lv_iload_n hx hb dX1_arrive_57 rfl (lv_at hl 2 rfl) ?_
  refine lv_isub hx hb dX1_arrive_58 ?_
  obtain ⟨g2, hf⟩ := gd hf
  refine g_iast hx hb hK had hP hS (b + 3) (fl_3 ib) g2 dX1_arrive_59 (fun H locs hP hS => ?_)
  exact wX1_arrive_s60 C n b ib (setI st (b + 3) v1.toNatClampNeg ((st.1 (b + 3) v1.toNatClampNeg) - v3)) res hf H locs ls (lv_sub hl [] rfl) hP hS
def fX1_arrive_s40 (n : Nat)  (b : Nat) (v1 : Int32) (v3 : Int32) (st : St) : Option (Unit × St) := if inb v1 8 = true then (if inb v1 8 = true then (fX1_arrive_s50 n b v1 v3 (setI st (b + 1) v1.toNatClampNeg ((st.1 (b + 1) v1.toNatClampNeg) + v3))) else none) else none
set_option maxHeartbeats 4000000 in
set_option maxRecDepth 100000 in
theorem wX1_arrive_s40 (C : Cx p s m args meth c cX1_arrive 4 wsL_law RX1 none D G ad) (n : Nat)  (b : Nat) (v1 : Int32) (v3 : Int32) (ib : isFl b)  (st : St) (res : (Unit × St))  (hf : fX1_arrive_s40 n  b v1 v3 st = some res) : At p l e (rmK 1) s m args below meth c D G ad (MQV D G ad below args s res) 4 st [(0, .ref (ad b)), (1, .int v1), (3, .int v3)] 40 [] := by
  obtain ⟨hx, hb, hml, hown, hts, hr, hlk, hK, had, hSt⟩ := id C
  intro H locs ls hl hP hS
  unfold fX1_arrive_s40 at hf
  refine lv_aload_n hx hb dX1_arrive_40 rfl (lv_at hl 0 rfl) ?_
  refine g_getR hx hb hts inlX1 hown hK hP b (fl_0 ib) rfl 0 (by decide) (hts _ wm_6_12) rfl dX1_arrive_41 ?_
  refine lv_iload_n hx hb dX1_arrive_44 rfl (lv_at hl 1 rfl) ?_
  refine lv_dup2_11 hx hb dX1_arrive_45 rfl rfl ?_
  obtain ⟨g1, hf⟩ := gd hf
  refine g_iald hx hb hK hP (b + 1) (fl_1 ib) g1 dX1_arrive_46 ?_
  refine lv_iload_n hx hb dX1_arrive_47 rfl (lv_at hl 2 rfl) ?_
  refine lv_iadd hx hb dX1_arrive_48 ?_
  obtain ⟨g2, hf⟩ := gd hf
  refine g_iast hx hb hK had hP hS (b + 1) (fl_1 ib) g2 dX1_arrive_49 (fun H locs hP hS => ?_)
  exact wX1_arrive_s50 C n b v1 v3 ib (setI st (b + 1) v1.toNatClampNeg ((st.1 (b + 1) v1.toNatClampNeg) + v3)) res hf H locs ls (lv_sub hl [0, 1, 2] rfl) hP hS
def fX1_arrive_s28 (n : Nat)  (b : Nat) (v1 : Int32) (v2 : Int32) (v3 : Int32) (st : St) : Option (Unit × St) := if inb ((v2 + 6) - 1) 48 = true then (fX1_arrive_s40 n b v1 v3 (setI st (b + 2) ((v2 + 6) - 1).toNatClampNeg 0)) else none
set_option maxHeartbeats 4000000 in
set_option maxRecDepth 100000 in
theorem wX1_arrive_s28 (C : Cx p s m args meth c cX1_arrive 4 wsL_law RX1 none D G ad) (n : Nat)  (b : Nat) (v1 : Int32) (v2 : Int32) (v3 : Int32) (ib : isFl b)  (st : St) (res : (Unit × St))  (hf : fX1_arrive_s28 n  b v1 v2 v3 st = some res) : At p l e (rmK 1) s m args below meth c D G ad (MQV D G ad below args s res) 4 st [(0, .ref (ad b)), (1, .int v1), (2, .int v2), (3, .int v3)] 28 [] := by
  obtain ⟨hx, hb, hml, hown, hts, hr, hlk, hK, had, hSt⟩ := id C
  intro H locs ls hl hP hS
  unfold fX1_arrive_s28 at hf
  refine lv_aload_n hx hb dX1_arrive_28 rfl (lv_at hl 0 rfl) ?_
  refine g_getR hx hb hts inlX1 hown hK hP b (fl_0 ib) rfl 1 (by decide) (hts _ wm_6_13) rfl dX1_arrive_29 ?_
  refine lv_iload_n hx hb dX1_arrive_32 rfl (lv_at hl 2 rfl) ?_
  refine lv_bipush (v := 6) hx hb dX1_arrive_33 (by decide) ?_
  refine lv_iadd hx hb dX1_arrive_35 ?_
  refine lv_iconst (v := 1) hx hb dX1_arrive_36 (by decide) ?_
  refine lv_isub hx hb dX1_arrive_37 ?_
  refine lv_iconst (v := 0) hx hb dX1_arrive_38 (by decide) ?_
  obtain ⟨g1, hf⟩ := gd hf
  refine g_iast hx hb hK had hP hS (b + 2) (fl_2 ib) g1 dX1_arrive_39 (fun H locs hP hS => ?_)
  exact wX1_arrive_s40 C n b v1 v3 ib (setI st (b + 2) ((v2 + 6) - 1).toNatClampNeg 0) res hf H locs ls (lv_sub hl [0, 1, 3] rfl) hP hS
def fX1_arrive_s0 (n : Nat)  (b : Nat) (v1 : Int32) (st : St) : Option (Unit × St) := if inb (v1 * 6) 48 = true then (if cpok ((v1 * 6) + 1) (v1 * 6) 5 48 48 = true then (fX1_arrive_s28 n b v1 (v1 * 6) (st.1 (b + 2) (v1 * 6).toNatClampNeg) (rowI st (b + 2) (va_cpy (st.1 (b + 2)) (st.1 (b + 2)) ((v1 * 6) + 1).toNatClampNeg (v1 * 6).toNatClampNeg (5 : Int32).toNatClampNeg))) else none) else none
set_option maxHeartbeats 4000000 in
set_option maxRecDepth 100000 in
theorem wX1_arrive_s0 (C : Cx p s m args meth c cX1_arrive 4 wsL_law RX1 none D G ad) (n : Nat)  (b : Nat) (v1 : Int32) (ib : isFl b)  (st : St) (res : (Unit × St))  (hf : fX1_arrive_s0 n  b v1 st = some res) : At p l e (rmK 1) s m args below meth c D G ad (MQV D G ad below args s res) 4 st [(0, .ref (ad b)), (1, .int v1)] 0 [] := by
  obtain ⟨hx, hb, hml, hown, hts, hr, hlk, hK, had, hSt⟩ := id C
  intro H locs ls hl hP hS
  unfold fX1_arrive_s0 at hf
  refine lv_iload_n hx hb dX1_arrive_0 rfl (lv_at hl 1 rfl) ?_
  refine lv_bipush (v := 6) hx hb dX1_arrive_1 (by decide) ?_
  refine lv_imul hx hb dX1_arrive_3 ?_
  refine lv_istore_n (lv' := [(2, .int (v1 * 6)), (0, .ref (ad b)), (1, .int v1)]) hx hb dX1_arrive_4 rfl hl (by decide) rfl (fun ls hl => ?_)
  refine lv_aload_n hx hb dX1_arrive_5 rfl (lv_at hl 1 rfl) ?_
  refine g_getR hx hb hts inlX1 hown hK hP b (fl_0 ib) rfl 1 (by decide) (hts _ wm_6_13) rfl dX1_arrive_6 ?_
  refine lv_iload_n hx hb dX1_arrive_9 rfl (lv_at hl 0 rfl) ?_
  obtain ⟨g1, hf⟩ := gd hf
  refine g_iald hx hb hK hP (b + 2) (fl_2 ib) g1 dX1_arrive_10 ?_
  refine lv_istore_n (lv' := [(3, .int (st.1 (b + 2) (v1 * 6).toNatClampNeg)), (2, .int (v1 * 6)), (0, .ref (ad b)), (1, .int v1)]) hx hb dX1_arrive_11 rfl hl (by decide) rfl (fun ls hl => ?_)
  refine lv_aload_n hx hb dX1_arrive_12 rfl (lv_at hl 2 rfl) ?_
  refine g_getR hx hb hts inlX1 hown hK hP b (fl_0 ib) rfl 1 (by decide) (hts _ wm_6_13) rfl dX1_arrive_13 ?_
  refine lv_iload_n hx hb dX1_arrive_16 rfl (lv_at hl 1 rfl) ?_
  refine lv_iconst (v := 1) hx hb dX1_arrive_17 (by decide) ?_
  refine lv_iadd hx hb dX1_arrive_18 ?_
  refine lv_aload_n hx hb dX1_arrive_19 rfl (lv_at hl 2 rfl) ?_
  refine g_getR hx hb hts inlX1 hown hK hP b (fl_0 ib) rfl 1 (by decide) (hts _ wm_6_13) rfl dX1_arrive_20 ?_
  refine lv_iload_n hx hb dX1_arrive_23 rfl (lv_at hl 1 rfl) ?_
  refine lv_iconst (v := 5) hx hb dX1_arrive_24 (by decide) ?_
  obtain ⟨g2, hf⟩ := gd hf
  refine g_copyI hx hb (hml.trans hl.1.symm) hown (hts _ wm_18_2) (hts _ wm_18_3) (hts _ wm_18_4) (hts _ wm_18_5) hK had hP hS (b + 2) (fl_2 ib) (b + 2) (fl_2 ib) g2 (Nat.le_of_ble_eq_true rfl) (Nat.le_of_ble_eq_true rfl) dX1_arrive_25 (fun H locs hP hS => ?_)
  exact wX1_arrive_s28 C n b v1 (v1 * 6) (st.1 (b + 2) (v1 * 6).toNatClampNeg) ib (rowI st (b + 2) (va_cpy (st.1 (b + 2)) (st.1 (b + 2)) ((v1 * 6) + 1).toNatClampNeg (v1 * 6).toNatClampNeg (5 : Int32).toNatClampNeg)) res hf H locs ls (lv_sub hl [2, 3, 1, 0] rfl) hP hS
def fX1_arrive (n : Nat) (b : Nat) (a1 : Int32) (st : St) : Option (Unit × St) := fX1_arrive_s0 n b a1 st
theorem okX1_arrive : okY yX1_arrive RX1 1 := by unfold okY; decide +kernel
end
set_option maxRecDepth 100000 in
theorem kX1_arrive (l : Launch) (D : va_G) (G : G3) (ad : Nat → Nat) (had : Adr ad) (n : Nat) (b : Nat) (ib : isFl b) (a1 : Int32) (st : St) (res : (Unit × St)) (hf : fX1_arrive n b a1 st = some res) {sz : Nat} : CtV l yX1_arrive (wsU yX1_arrive cX1_arrive 4 none) (rmK 1) D G ad sz [.ref (ad b), .int a1] st res := by
  refine Met.ofW (cc := cX1_arrive) (maxL := 4) (ret := none) (by decide) rfl ?_
  intro p e s m args below meth c s₁ B hml hv
  obtain ⟨rfl, hsz, hP, hK, hSt⟩ := hv
  have hts := atoms_spec (ws := wsU yX1_arrive cX1_arrive 4 none) B.pre
  have C : Cx p s m _ meth c cX1_arrive 4 wsL_law RX1 none D G ad := ⟨B.exec, B.bytes, hml, findClass_of_methodNamed B.named, fun w h => hts w (List.mem_cons_of_mem _ h), B.returns, B.notSynchronized, hK, had, hSt⟩
  subst hsz
  have hl := lv_entry ([.ref (ad b), .int a1]) (n := 4) (Nat.le_of_ble_eq_true rfl)
  rw [lg_entry_eq]
  generalize (lg_sl ([.ref (ad b), .int a1]) ++ List.replicate (4 - (lg_sl ([.ref (ad b), .int a1])).length) Slot.unset).toArray = ls at hl ⊢
  exact wX1_arrive_s0 C n b a1 ib  st res hf s.heap [] ls (lv_sub hl [0, 1] rfl) hP va_S.rf
section
variable {p : Program} {l : Launch} {e : Env} {s : State} {m : MethodId} {args : Array Value} {below : List Frame} {meth : Method} {c : Code} {D : va_G} {G : G3} {ad : Nat → Nat}
def fX1_putOnWay_s32 (n : Nat)  (b : Nat)  (st : St) : Option (Unit × St) := some ((), st)
set_option maxHeartbeats 4000000 in
set_option maxRecDepth 100000 in
theorem wX1_putOnWay_s32 (C : Cx p s m args meth c cX1_putOnWay 4 wsL_law RX1 none D G ad) (n : Nat)  (b : Nat)  (ib : isFl b)  (st : St) (res : (Unit × St))  (hf : fX1_putOnWay_s32 n  b  st = some res) : At p l e (rmK 0) s m args below meth c D G ad (MQV D G ad below args s res) 4 st [] 32 [] := by
  obtain ⟨hx, hb, hml, hown, hts, hr, hlk, hK, had, hSt⟩ := id C
  intro H locs ls hl hP hS
  unfold fX1_putOnWay_s32 at hf
  exact g_vret hx hb hr hlk hP hS dX1_putOnWay_32 hf
def fX1_putOnWay_s22 (n : Nat)  (b : Nat) (v2 : Int32) (v3 : Int32) (st : St) : Option (Unit × St) := if inb v2 8 = true then (if inb v2 8 = true then (fX1_putOnWay_s32 n b (setI st (b + 3) v2.toNatClampNeg ((st.1 (b + 3) v2.toNatClampNeg) + v3))) else none) else none
set_option maxHeartbeats 4000000 in
set_option maxRecDepth 100000 in
theorem wX1_putOnWay_s22 (C : Cx p s m args meth c cX1_putOnWay 4 wsL_law RX1 none D G ad) (n : Nat)  (b : Nat) (v2 : Int32) (v3 : Int32) (ib : isFl b)  (st : St) (res : (Unit × St))  (hf : fX1_putOnWay_s22 n  b v2 v3 st = some res) : At p l e (rmK 0) s m args below meth c D G ad (MQV D G ad below args s res) 4 st [(0, .ref (ad b)), (2, .int v2), (3, .int v3)] 22 [] := by
  obtain ⟨hx, hb, hml, hown, hts, hr, hlk, hK, had, hSt⟩ := id C
  intro H locs ls hl hP hS
  unfold fX1_putOnWay_s22 at hf
  refine lv_aload_n hx hb dX1_putOnWay_22 rfl (lv_at hl 0 rfl) ?_
  refine g_getR hx hb hts inlX1 hown hK hP b (fl_0 ib) rfl 2 (by decide) (hts _ wm_6_14) rfl dX1_putOnWay_23 ?_
  refine lv_iload_n hx hb dX1_putOnWay_26 rfl (lv_at hl 1 rfl) ?_
  refine lv_dup2_11 hx hb dX1_putOnWay_27 rfl rfl ?_
  obtain ⟨g1, hf⟩ := gd hf
  refine g_iald hx hb hK hP (b + 3) (fl_3 ib) g1 dX1_putOnWay_28 ?_
  refine lv_iload_n hx hb dX1_putOnWay_29 rfl (lv_at hl 2 rfl) ?_
  refine lv_iadd hx hb dX1_putOnWay_30 ?_
  obtain ⟨g2, hf⟩ := gd hf
  refine g_iast hx hb hK had hP hS (b + 3) (fl_3 ib) g2 dX1_putOnWay_31 (fun H locs hP hS => ?_)
  exact wX1_putOnWay_s32 C n b ib (setI st (b + 3) v2.toNatClampNeg ((st.1 (b + 3) v2.toNatClampNeg) + v3)) res hf H locs ls (lv_sub hl [] rfl) hP hS
def fX1_putOnWay_s0 (n : Nat)  (b : Nat) (v2 : Int32) (v3 : Int32) (st : St) : Option (Unit × St) := if inb v2 8 = true then (if inb (((v2 * 6) + (st.1 4 v2.toNatClampNeg)) - 1) 48 = true then (if inb (((v2 * 6) + (st.1 4 v2.toNatClampNeg)) - 1) 48 = true then (fX1_putOnWay_s22 n b v2 v3 (setI st (b + 2) (((v2 * 6) + (st.1 4 v2.toNatClampNeg)) - 1).toNatClampNeg ((st.1 (b + 2) (((v2 * 6) + (st.1 4 v2.toNatClampNeg)) - 1).toNatClampNeg) + v3))) else none) else none) else none
set_option maxHeartbeats 4000000 in
set_option maxRecDepth 100000 in
theorem wX1_putOnWay_s0 (C : Cx p s m args meth c cX1_putOnWay 4 wsL_law RX1 none D G ad) (n : Nat)  (b : Nat) (v2 : Int32) (v3 : Int32) (ib : isFl b)  (st : St) (res : (Unit × St))  (hf : fX1_putOnWay_s0 n  b v2 v3 st = some res) : At p l e (rmK 0) s m args below meth c D G ad (MQV D G ad below args s res) 4 st [(0, .ref (ad b)), (1, .ref (ad 1)), (2, .int v2), (3, .int v3)] 0 [] := by
  obtain ⟨hx, hb, hml, hown, hts, hr, hlk, hK, had, hSt⟩ := id C
  intro H locs ls hl hP hS
  unfold fX1_putOnWay_s0 at hf
  refine lv_aload_n hx hb dX1_putOnWay_0 rfl (lv_at hl 0 rfl) ?_
  refine g_getR hx hb hts inlX1 hown hK hP b (fl_0 ib) rfl 1 (by decide) (hts _ wm_6_13) rfl dX1_putOnWay_1 ?_
  refine lv_iload_n hx hb dX1_putOnWay_4 rfl (lv_at hl 2 rfl) ?_
  refine lv_bipush (v := 6) hx hb dX1_putOnWay_5 (by decide) ?_
  refine lv_imul hx hb dX1_putOnWay_7 ?_
  refine lv_aload_n hx hb dX1_putOnWay_8 rfl (lv_at hl 1 rfl) ?_
  refine g_getR hx hb hts inlX6 hown hK hP 1 ct_1 rfl 2 (by decide) (hts _ wm_20_11) rfl dX1_putOnWay_9 ?_
  refine lv_iload_n hx hb dX1_putOnWay_12 rfl (lv_at hl 2 rfl) ?_
  obtain ⟨g1, hf⟩ := gd hf
  refine g_iald hx hb hK hP 4 ct_4 g1 dX1_putOnWay_13 ?_
  refine lv_iadd hx hb dX1_putOnWay_14 ?_
  refine lv_iconst (v := 1) hx hb dX1_putOnWay_15 (by decide) ?_
  refine lv_isub hx hb dX1_putOnWay_16 ?_
  refine lv_dup2_11 hx hb dX1_putOnWay_17 rfl rfl ?_
  obtain ⟨g2, hf⟩ := gd hf
  refine g_iald hx hb hK hP (b + 2) (fl_2 ib) g2 dX1_putOnWay_18 ?_
  refine lv_iload_n hx hb dX1_putOnWay_19 rfl (lv_at hl 3 rfl) ?_
  refine lv_iadd hx hb dX1_putOnWay_20 ?_
  obtain ⟨g3, hf⟩ := gd hf
  refine g_iast hx hb hK had hP hS (b + 2) (fl_2 ib) g3 dX1_putOnWay_21 (fun H locs hP hS => ?_)
  exact wX1_putOnWay_s22 C n b v2 v3 ib (setI st (b + 2) (((v2 * 6) + (st.1 4 v2.toNatClampNeg)) - 1).toNatClampNeg ((st.1 (b + 2) (((v2 * 6) + (st.1 4 v2.toNatClampNeg)) - 1).toNatClampNeg) + v3)) res hf H locs ls (lv_sub hl [0, 2, 3] rfl) hP hS
def fX1_putOnWay (n : Nat) (b : Nat) (a2 : Int32) (a3 : Int32) (st : St) : Option (Unit × St) := fX1_putOnWay_s0 n b a2 a3 st
theorem okX1_putOnWay : okY yX1_putOnWay RX1 3 := by unfold okY; decide +kernel
end
set_option maxRecDepth 100000 in
theorem kX1_putOnWay (l : Launch) (D : va_G) (G : G3) (ad : Nat → Nat) (had : Adr ad) (n : Nat) (b : Nat) (ib : isFl b) (a2 : Int32) (a3 : Int32) (st : St) (res : (Unit × St)) (hf : fX1_putOnWay n b a2 a3 st = some res) {sz : Nat} : CtV l yX1_putOnWay (wsU yX1_putOnWay cX1_putOnWay 4 none) (rmK 0) D G ad sz [.ref (ad b), .ref (ad 1), .int a2, .int a3] st res := by
  refine Met.ofW (cc := cX1_putOnWay) (maxL := 4) (ret := none) (by decide) rfl ?_
  intro p e s m args below meth c s₁ B hml hv
  obtain ⟨rfl, hsz, hP, hK, hSt⟩ := hv
  have hts := atoms_spec (ws := wsU yX1_putOnWay cX1_putOnWay 4 none) B.pre
  have C : Cx p s m _ meth c cX1_putOnWay 4 wsL_law RX1 none D G ad := ⟨B.exec, B.bytes, hml, findClass_of_methodNamed B.named, fun w h => hts w (List.mem_cons_of_mem _ h), B.returns, B.notSynchronized, hK, had, hSt⟩
  subst hsz
  have hl := lv_entry ([.ref (ad b), .ref (ad 1), .int a2, .int a3]) (n := 4) (Nat.le_of_ble_eq_true rfl)
  rw [lg_entry_eq]
  generalize (lg_sl ([.ref (ad b), .ref (ad 1), .int a2, .int a3]) ++ List.replicate (4 - (lg_sl ([.ref (ad b), .ref (ad 1), .int a2, .int a3])).length) Slot.unset).toArray = ls at hl ⊢
  exact wX1_putOnWay_s0 C n b a2 a3 ib  st res hf s.heap [] ls (lv_sub hl [0, 1, 2, 3] rfl) hP va_S.rf
section
variable {p : Program} {l : Launch} {e : Env} {s : State} {m : MethodId} {args : Array Value} {below : List Frame} {meth : Method} {c : Code} {D : va_G} {G : G3} {ad : Nat → Nat}
def fX1_give_s108 (n : Nat)  (b : Nat)  (st : St) : Option (Unit × St) := some ((), st)
set_option maxHeartbeats 4000000 in
set_option maxRecDepth 100000 in
theorem wX1_give_s108 (C : Cx p s m args meth c cX1_give 10 wsL_law RX1 none D G ad) (n : Nat)  (b : Nat)  (ib : isFl b)  (st : St) (res : (Unit × St))  (hf : fX1_give_s108 n  b  st = some res) : At p l e (rmK 1) s m args below meth c D G ad (MQV D G ad below args s res) 10 st [] 108 [] := by
  obtain ⟨hx, hb, hml, hown, hts, hr, hlk, hK, had, hSt⟩ := id C
  intro H locs ls hl hP hS
  unfold fX1_give_s108 at hf
  exact g_vret hx hb hr hlk hP hS dX1_give_108 hf
def fX1_give_s97 (n : Nat)  (b : Nat) (v2 : Int32) (v9 : Int32) (st : St) : Option (Unit × St) := if inb v2 8 = true then (if inb v2 8 = true then (fX1_give_s108 n b (setI st (b + 6) v2.toNatClampNeg ((st.1 (b + 6) v2.toNatClampNeg) + v9))) else none) else none
set_option maxHeartbeats 4000000 in
set_option maxRecDepth 100000 in
theorem wX1_give_s97 (C : Cx p s m args meth c cX1_give 10 wsL_law RX1 none D G ad) (n : Nat)  (b : Nat) (v2 : Int32) (v9 : Int32) (ib : isFl b)  (st : St) (res : (Unit × St))  (hf : fX1_give_s97 n  b v2 v9 st = some res) : At p l e (rmK 1) s m args below meth c D G ad (MQV D G ad below args s res) 10 st [(0, .ref (ad b)), (2, .int v2), (9, .int v9)] 97 [] := by
  obtain ⟨hx, hb, hml, hown, hts, hr, hlk, hK, had, hSt⟩ := id C
  intro H locs ls hl hP hS
  unfold fX1_give_s97 at hf
  refine lv_aload_n hx hb dX1_give_97 rfl (lv_at hl 0 rfl) ?_
  refine g_getR hx hb hts inlX1 hown hK hP b (fl_0 ib) rfl 5 (by decide) (hts _ wm_6_17) rfl dX1_give_98 ?_
  refine lv_iload_n hx hb dX1_give_101 rfl (lv_at hl 1 rfl) ?_
  refine lv_dup2_11 hx hb dX1_give_102 rfl rfl ?_
  obtain ⟨g1, hf⟩ := gd hf
  refine g_iald hx hb hK hP (b + 6) (fl_6 ib) g1 dX1_give_103 ?_
  refine lv_iload hx hb dX1_give_104 (lv_at hl 2 rfl) ?_
  refine lv_iadd hx hb dX1_give_106 ?_
  obtain ⟨g2, hf⟩ := gd hf
  refine g_iast hx hb hK had hP hS (b + 6) (fl_6 ib) g2 dX1_give_107 (fun H locs hP hS => ?_)
  exact wX1_give_s108 C n b ib (setI st (b + 6) v2.toNatClampNeg ((st.1 (b + 6) v2.toNatClampNeg) + v9)) res hf H locs ls (lv_sub hl [] rfl) hP hS
def fX1_give_s94 (n : Nat)  (b : Nat)  (st : St) : Option (Unit × St) := fX1_give_s108 n b st
set_option maxHeartbeats 4000000 in
set_option maxRecDepth 100000 in
theorem wX1_give_s94 (C : Cx p s m args meth c cX1_give 10 wsL_law RX1 none D G ad) (n : Nat)  (b : Nat)  (ib : isFl b)  (st : St) (res : (Unit × St))  (hf : fX1_give_s94 n  b  st = some res) : At p l e (rmK 1) s m args below meth c D G ad (MQV D G ad below args s res) 10 st [] 94 [] := by
  obtain ⟨hx, hb, hml, hown, hts, hr, hlk, hK, had, hSt⟩ := id C
  intro H locs ls hl hP hS
  unfold fX1_give_s94 at hf
  refine lv_goto (tgt := 108) hx hb dX1_give_94 (by decide) ?_
  exact wX1_give_s108 C n b ib st res hf H locs ls (lv_sub hl [] rfl) hP hS
def fX1_give_s86 (n : Nat)  (b : Nat) (v2 : Int32) (v9 : Int32) (st : St) : Option (Unit × St) := (fX1_putOnWay n b v2 v9 st).bind (fun q => fX1_give_s94 n b q.2)
set_option maxHeartbeats 4000000 in
set_option maxRecDepth 100000 in
theorem wX1_give_s86 (C : Cx p s m args meth c cX1_give 10 wsL_law RX1 none D G ad) (n : Nat)  (b : Nat) (v2 : Int32) (v9 : Int32) (ib : isFl b)  (st : St) (res : (Unit × St))  (hf : fX1_give_s86 n  b v2 v9 st = some res) : At p l e (rmK 1) s m args below meth c D G ad (MQV D G ad below args s res) 10 st [(0, .ref (ad b)), (1, .ref (ad 1)), (2, .int v2), (9, .int v9)] 86 [] := by
  obtain ⟨hx, hb, hml, hown, hts, hr, hlk, hK, had, hSt⟩ := id C
  intro H locs ls hl hP hS
  unfold fX1_give_s86 at hf
  refine lv_aload_n hx hb dX1_give_86 rfl (lv_at hl 0 rfl) ?_
  refine lv_aload_n hx hb dX1_give_87 rfl (lv_at hl 1 rfl) ?_
  refine lv_iload_n hx hb dX1_give_88 rfl (lv_at hl 2 rfl) ?_
  refine lv_iload hx hb dX1_give_89 (lv_at hl 3 rfl) ?_
  obtain ⟨q, hq, hf⟩ := bd hf
  refine gcV_v (k := 0) (o := b) (As := [.ref (ad 1), .int v2, .int v9]) (rest := []) hx hb hml hown hts hK hSt hP hS hl.1 (goodV wm_20_7 wm_20_8 wm_20_9 wm_3_6 wm_20_10) okX1_putOnWay (fl_0 ib) rfl rfl (Nat.le_of_ble_eq_true rfl) (Nat.le_of_ble_eq_true rfl) rfl rfl (Nat.le_of_ble_eq_true rfl) dX1_give_91 (kX1_putOnWay l D G ad had n b ib v2 v9 st q hq) (fun H locs hP hS => ?_)
  exact wX1_give_s94 C n b ib q.2 res hf H locs ls (lv_sub hl [] rfl) hP hS
def fX1_give_s74 (n : Nat)  (b : Nat) (v2 : Int32) (v9 : Int32) (st : St) : Option (Unit × St) := fX1_give_s86 n b v2 v9 (setJ st b 11 ((st.2 b 11) + v9.toInt64))
set_option maxHeartbeats 4000000 in
set_option maxRecDepth 100000 in
theorem wX1_give_s74 (C : Cx p s m args meth c cX1_give 10 wsL_law RX1 none D G ad) (n : Nat)  (b : Nat) (v2 : Int32) (v9 : Int32) (ib : isFl b)  (st : St) (res : (Unit × St))  (hf : fX1_give_s74 n  b v2 v9 st = some res) : At p l e (rmK 1) s m args below meth c D G ad (MQV D G ad below args s res) 10 st [(0, .ref (ad b)), (1, .ref (ad 1)), (2, .int v2), (9, .int v9)] 74 [] := by
  obtain ⟨hx, hb, hml, hown, hts, hr, hlk, hK, had, hSt⟩ := id C
  intro H locs ls hl hP hS
  unfold fX1_give_s74 at hf
  refine lv_aload_n hx hb dX1_give_74 rfl (lv_at hl 0 rfl) ?_
  refine lv_dup hx hb dX1_give_75 rfl ?_
  refine g_getJ hx hb hts inlX1 hown hK hP b (fl_0 ib) rfl 11 (by decide) (hts _ wm_22_5) rfl dX1_give_76 ?_
  refine lv_iload hx hb dX1_give_79 (lv_at hl 3 rfl) ?_
  refine lv_i2l hx hb dX1_give_81 rfl ?_
  refine lv_ladd hx hb dX1_give_82 ?_
  refine g_putJ hx hb hts inlX1 tyX1_ok nmX1 hown hK had hP hS b (fl_0 ib) rfl 11 (by decide) (hts _ wm_22_5) rfl rfl rfl dX1_give_83 (fun H locs hP hS => ?_)
  exact wX1_give_s86 C n b v2 v9 ib (setJ st b 11 ((st.2 b 11) + v9.toInt64)) res hf H locs ls (lv_sub hl [0, 1, 2, 3] rfl) hP hS
def fX1_give_s65 (n : Nat)  (b : Nat) (v2 : Int32) (v9 : Int32) (st : St) : Option (Unit × St) := if inb v2 8 = true then (if (st.1 2 v2.toNatClampNeg) = 0 then fX1_give_s74 n b v2 v9 st else fX1_give_s97 n b v2 v9 st) else none
set_option maxHeartbeats 4000000 in
set_option maxRecDepth 100000 in
theorem wX1_give_s65 (C : Cx p s m args meth c cX1_give 10 wsL_law RX1 none D G ad) (n : Nat)  (b : Nat) (v2 : Int32) (v9 : Int32) (ib : isFl b)  (st : St) (res : (Unit × St))  (hf : fX1_give_s65 n  b v2 v9 st = some res) : At p l e (rmK 1) s m args below meth c D G ad (MQV D G ad below args s res) 10 st [(0, .ref (ad b)), (1, .ref (ad 1)), (2, .int v2), (9, .int v9)] 65 [] := by
  obtain ⟨hx, hb, hml, hown, hts, hr, hlk, hK, had, hSt⟩ := id C
  intro H locs ls hl hP hS
  unfold fX1_give_s65 at hf
  refine lv_aload_n hx hb dX1_give_65 rfl (lv_at hl 1 rfl) ?_
  refine g_getR hx hb hts inlX6 hown hK hP 1 ct_1 rfl 0 (by decide) (hts _ wm_22_4) rfl dX1_give_66 ?_
  refine lv_iload_n hx hb dX1_give_69 rfl (lv_at hl 2 rfl) ?_
  obtain ⟨g1, hf⟩ := gd hf
  refine g_iald hx hb hK hP 2 ct_2 g1 dX1_give_70 ?_
  refine lv_if_ne (tgt := 97) hx hb dX1_give_71 (by decide) (fun q => ?_) (fun q => ?_)
  · exact wX1_give_s97 C n b v2 v9 ib st res (ie hf q) H locs ls (lv_sub hl [0, 2, 3] rfl) hP hS
  · exact wX1_give_s74 C n b v2 v9 ib st res (it hf q) H locs ls (lv_sub hl [0, 1, 2, 3] rfl) hP hS
def fX1_give_s0 (n : Nat)  (b : Nat) (v2 : Int32) (v3 : Int64) (st : St) : Option (Unit × St) := if inb v2 8 = true then (if (if 1 < (st.1 6 v2.toNatClampNeg) then (st.1 6 v2.toNatClampNeg) else 1).toInt64 = 0 then none else (if inb v2 8 = true then (if inb ((v2 * 4) + (((st.1 b 10) - 1) - ((st.1 b 10) - 1) / 4 * 4)) 32 = true then (fX1_give_s65 n b v2 ((if ((st.1 7 v2.toNatClampNeg).toInt64) < (((((if v3 < 0 then 0 else v3) + ((if 1 < (st.1 6 v2.toNatClampNeg) then (st.1 6 v2.toNatClampNeg) else 1).toInt64)) - 1) / ((if 1 < (st.1 6 v2.toNatClampNeg) then (st.1 6 v2.toNatClampNeg) else 1).toInt64)) * ((if 1 < (st.1 6 v2.toNatClampNeg) then (st.1 6 v2.toNatClampNeg) else 1).toInt64)) then ((st.1 7 v2.toNatClampNeg).toInt64) else (((((if v3 < 0 then 0 else v3) + ((if 1 < (st.1 6 v2.toNatClampNeg) then (st.1 6 v2.toNatClampNeg) else 1).toInt64)) - 1) / ((if 1 < (st.1 6 v2.toNatClampNeg) then (st.1 6 v2.toNatClampNeg) else 1).toInt64)) * ((if 1 < (st.1 6 v2.toNatClampNeg) then (st.1 6 v2.toNatClampNeg) else 1).toInt64))).toInt32) (setI st (b + 9) ((v2 * 4) + (((st.1 b 10) - 1) - ((st.1 b 10) - 1) / 4 * 4)).toNatClampNeg ((if ((st.1 7 v2.toNatClampNeg).toInt64) < (((((if v3 < 0 then 0 else v3) + ((if 1 < (st.1 6 v2.toNatClampNeg) then (st.1 6 v2.toNatClampNeg) else 1).toInt64)) - 1) / ((if 1 < (st.1 6 v2.toNatClampNeg) then (st.1 6 v2.toNatClampNeg) else 1).toInt64)) * ((if 1 < (st.1 6 v2.toNatClampNeg) then (st.1 6 v2.toNatClampNeg) else 1).toInt64)) then ((st.1 7 v2.toNatClampNeg).toInt64) else (((((if v3 < 0 then 0 else v3) + ((if 1 < (st.1 6 v2.toNatClampNeg) then (st.1 6 v2.toNatClampNeg) else 1).toInt64)) - 1) / ((if 1 < (st.1 6 v2.toNatClampNeg) then (st.1 6 v2.toNatClampNeg) else 1).toInt64)) * ((if 1 < (st.1 6 v2.toNatClampNeg) then (st.1 6 v2.toNatClampNeg) else 1).toInt64))).toInt32))) else none) else none)) else none
set_option maxHeartbeats 4000000 in
set_option maxRecDepth 100000 in
theorem wX1_give_s0 (C : Cx p s m args meth c cX1_give 10 wsL_law RX1 none D G ad) (n : Nat)  (b : Nat) (v2 : Int32) (v3 : Int64) (ib : isFl b)  (st : St) (res : (Unit × St))  (hf : fX1_give_s0 n  b v2 v3 st = some res) : At p l e (rmK 1) s m args below meth c D G ad (MQV D G ad below args s res) 10 st [(0, .ref (ad b)), (1, .ref (ad 1)), (2, .int v2), (3, .long v3)] 0 [] := by
  obtain ⟨hx, hb, hml, hown, hts, hr, hlk, hK, had, hSt⟩ := id C
  intro H locs ls hl hP hS
  unfold fX1_give_s0 at hf
  refine lv_iconst (v := 1) hx hb dX1_give_0 (by decide) ?_
  refine lv_aload_n hx hb dX1_give_1 rfl (lv_at hl 1 rfl) ?_
  refine g_getR hx hb hts inlX6 hown hK hP 1 ct_1 rfl 4 (by decide) (hts _ wm_22_0) rfl dX1_give_2 ?_
  refine lv_iload_n hx hb dX1_give_5 rfl (lv_at hl 2 rfl) ?_
  obtain ⟨g1, hf⟩ := gd hf
  refine g_iald hx hb hK hP 6 ct_6 g1 dX1_give_6 ?_
  refine va_mmax hx hb (hml.trans hl.1.symm) hown (hts _ wm_20_21) (hts _ wm_20_22) (hts _ wm_18_20) (hts _ wm_20_23) (Nat.le_of_ble_eq_true rfl) (Nat.le_of_ble_eq_true rfl) (Nat.zero_le _) (Nat.zero_le _) dX1_give_7 ?_
  refine lv_i2l hx hb dX1_give_10 rfl ?_
  refine lv_lstore (lv' := [(5, .long ((if 1 < (st.1 6 v2.toNatClampNeg) then (st.1 6 v2.toNatClampNeg) else 1).toInt64)), (0, .ref (ad b)), (1, .ref (ad 1)), (2, .int v2), (3, .long v3)]) hx hb dX1_give_11 hl (by decide) rfl (fun ls hl => ?_)
  refine lv_lconst (v := 0) hx hb dX1_give_13 (by decide) ?_
  refine lv_lload_n hx hb dX1_give_14 rfl (lv_at hl 4 rfl) ?_
  refine va_mmax_long hx hb (hml.trans hl.1.symm) hown (hts _ wm_22_1) (hts _ wm_21_13) (hts _ wm_18_20) (hts _ wm_21_14) (Nat.le_of_ble_eq_true rfl) (Nat.le_of_ble_eq_true rfl) (Nat.zero_le _) (Nat.zero_le _) dX1_give_15 ?_
  refine lv_lload hx hb dX1_give_18 (lv_at hl 0 rfl) ?_
  refine lv_ladd hx hb dX1_give_20 ?_
  refine lv_lconst (v := 1) hx hb dX1_give_21 (by decide) ?_
  refine lv_lsub hx hb dX1_give_22 ?_
  refine lv_lload hx hb dX1_give_23 (lv_at hl 0 rfl) ?_
  obtain ⟨g2, hf⟩ := gn hf
  refine lv_ldiv hx hb dX1_give_25 g2 ?_
  refine lv_lstore (lv' := [(7, .long ((((if v3 < 0 then 0 else v3) + ((if 1 < (st.1 6 v2.toNatClampNeg) then (st.1 6 v2.toNatClampNeg) else 1).toInt64)) - 1) / ((if 1 < (st.1 6 v2.toNatClampNeg) then (st.1 6 v2.toNatClampNeg) else 1).toInt64))), (5, .long ((if 1 < (st.1 6 v2.toNatClampNeg) then (st.1 6 v2.toNatClampNeg) else 1).toInt64)), (0, .ref (ad b)), (1, .ref (ad 1)), (2, .int v2), (3, .long v3)]) hx hb dX1_give_26 hl (by decide) rfl (fun ls hl => ?_)
  refine lv_lload hx hb dX1_give_28 (lv_at hl 0 rfl) ?_
  refine lv_lload hx hb dX1_give_30 (lv_at hl 1 rfl) ?_
  refine lv_lmul hx hb dX1_give_32 ?_
  refine lv_aload_n hx hb dX1_give_33 rfl (lv_at hl 3 rfl) ?_
  refine g_getR hx hb hts inlX6 hown hK hP 1 ct_1 rfl 5 (by decide) (hts _ wm_22_2) rfl dX1_give_34 ?_
  refine lv_iload_n hx hb dX1_give_37 rfl (lv_at hl 4 rfl) ?_
  obtain ⟨g3, hf⟩ := gd hf
  refine g_iald hx hb hK hP 7 ct_7 g3 dX1_give_38 ?_
  refine lv_i2l hx hb dX1_give_39 rfl ?_
  refine va_mmin_long hx hb (hml.trans hl.1.symm) hown (hts _ wm_22_3) (hts _ wm_21_10) (hts _ wm_18_20) (hts _ wm_21_11) (Nat.le_of_ble_eq_true rfl) (Nat.le_of_ble_eq_true rfl) (Nat.zero_le _) (Nat.zero_le _) dX1_give_40 ?_
  refine lv_l2i hx hb dX1_give_43 rfl ?_
  refine lv_istore (lv' := [(9, .int ((if ((st.1 7 v2.toNatClampNeg).toInt64) < (((((if v3 < 0 then 0 else v3) + ((if 1 < (st.1 6 v2.toNatClampNeg) then (st.1 6 v2.toNatClampNeg) else 1).toInt64)) - 1) / ((if 1 < (st.1 6 v2.toNatClampNeg) then (st.1 6 v2.toNatClampNeg) else 1).toInt64)) * ((if 1 < (st.1 6 v2.toNatClampNeg) then (st.1 6 v2.toNatClampNeg) else 1).toInt64)) then ((st.1 7 v2.toNatClampNeg).toInt64) else (((((if v3 < 0 then 0 else v3) + ((if 1 < (st.1 6 v2.toNatClampNeg) then (st.1 6 v2.toNatClampNeg) else 1).toInt64)) - 1) / ((if 1 < (st.1 6 v2.toNatClampNeg) then (st.1 6 v2.toNatClampNeg) else 1).toInt64)) * ((if 1 < (st.1 6 v2.toNatClampNeg) then (st.1 6 v2.toNatClampNeg) else 1).toInt64))).toInt32)), (7, .long ((((if v3 < 0 then 0 else v3) + ((if 1 < (st.1 6 v2.toNatClampNeg) then (st.1 6 v2.toNatClampNeg) else 1).toInt64)) - 1) / ((if 1 < (st.1 6 v2.toNatClampNeg) then (st.1 6 v2.toNatClampNeg) else 1).toInt64))), (5, .long ((if 1 < (st.1 6 v2.toNatClampNeg) then (st.1 6 v2.toNatClampNeg) else 1).toInt64)), (0, .ref (ad b)), (1, .ref (ad 1)), (2, .int v2), (3, .long v3)]) hx hb dX1_give_44 hl (by decide) rfl (fun ls hl => ?_)
  refine lv_aload_n hx hb dX1_give_46 rfl (lv_at hl 3 rfl) ?_
  refine g_getR hx hb hts inlX1 hown hK hP b (fl_0 ib) rfl 8 (by decide) (hts _ wm_6_20) rfl dX1_give_47 ?_
  refine lv_iload_n hx hb dX1_give_50 rfl (lv_at hl 5 rfl) ?_
  refine lv_iconst (v := 4) hx hb dX1_give_51 (by decide) ?_
  refine lv_imul hx hb dX1_give_52 ?_
  refine lv_aload_n hx hb dX1_give_53 rfl (lv_at hl 3 rfl) ?_
  refine g_getI hx hb hts inlX1 hown hK hP b (fl_0 ib) rfl 10 (by decide) (hts _ wm_13_12) rfl dX1_give_54 ?_
  refine lv_iconst (v := 1) hx hb dX1_give_57 (by decide) ?_
  refine lv_isub hx hb dX1_give_58 ?_
  refine lv_iconst (v := 4) hx hb dX1_give_59 (by decide) ?_
  refine lv_irem hx hb dX1_give_60 (by decide) ?_
  refine lv_iadd hx hb dX1_give_61 ?_
  refine lv_iload hx hb dX1_give_62 (lv_at hl 0 rfl) ?_
  obtain ⟨g4, hf⟩ := gd hf
  refine g_iast hx hb hK had hP hS (b + 9) (fl_9 ib) g4 dX1_give_64 (fun H locs hP hS => ?_)
  exact wX1_give_s65 C n b v2 ((if ((st.1 7 v2.toNatClampNeg).toInt64) < (((((if v3 < 0 then 0 else v3) + ((if 1 < (st.1 6 v2.toNatClampNeg) then (st.1 6 v2.toNatClampNeg) else 1).toInt64)) - 1) / ((if 1 < (st.1 6 v2.toNatClampNeg) then (st.1 6 v2.toNatClampNeg) else 1).toInt64)) * ((if 1 < (st.1 6 v2.toNatClampNeg) then (st.1 6 v2.toNatClampNeg) else 1).toInt64)) then ((st.1 7 v2.toNatClampNeg).toInt64) else (((((if v3 < 0 then 0 else v3) + ((if 1 < (st.1 6 v2.toNatClampNeg) then (st.1 6 v2.toNatClampNeg) else 1).toInt64)) - 1) / ((if 1 < (st.1 6 v2.toNatClampNeg) then (st.1 6 v2.toNatClampNeg) else 1).toInt64)) * ((if 1 < (st.1 6 v2.toNatClampNeg) then (st.1 6 v2.toNatClampNeg) else 1).toInt64))).toInt32) ib (setI st (b + 9) ((v2 * 4) + (((st.1 b 10) - 1) - ((st.1 b 10) - 1) / 4 * 4)).toNatClampNeg ((if ((st.1 7 v2.toNatClampNeg).toInt64) < (((((if v3 < 0 then 0 else v3) + ((if 1 < (st.1 6 v2.toNatClampNeg) then (st.1 6 v2.toNatClampNeg) else 1).toInt64)) - 1) / ((if 1 < (st.1 6 v2.toNatClampNeg) then (st.1 6 v2.toNatClampNeg) else 1).toInt64)) * ((if 1 < (st.1 6 v2.toNatClampNeg) then (st.1 6 v2.toNatClampNeg) else 1).toInt64)) then ((st.1 7 v2.toNatClampNeg).toInt64) else (((((if v3 < 0 then 0 else v3) + ((if 1 < (st.1 6 v2.toNatClampNeg) then (st.1 6 v2.toNatClampNeg) else 1).toInt64)) - 1) / ((if 1 < (st.1 6 v2.toNatClampNeg) then (st.1 6 v2.toNatClampNeg) else 1).toInt64)) * ((if 1 < (st.1 6 v2.toNatClampNeg) then (st.1 6 v2.toNatClampNeg) else 1).toInt64))).toInt32)) res hf H locs ls (lv_sub hl [3, 4, 5, 0] rfl) hP hS
def fX1_give (n : Nat) (b : Nat) (a2 : Int32) (a3 : Int64) (st : St) : Option (Unit × St) := fX1_give_s0 n b a2 a3 st
theorem okX1_give : okY yX1_give RX1 3 := by unfold okY; decide +kernel
end
set_option maxRecDepth 100000 in
theorem kX1_give (l : Launch) (D : va_G) (G : G3) (ad : Nat → Nat) (had : Adr ad) (n : Nat) (b : Nat) (ib : isFl b) (a2 : Int32) (a3 : Int64) (st : St) (res : (Unit × St)) (hf : fX1_give n b a2 a3 st = some res) {sz : Nat} : CtV l yX1_give (wsU yX1_give cX1_give 10 none) (rmK 1) D G ad sz [.ref (ad b), .ref (ad 1), .int a2, .long a3] st res := by
  refine Met.ofW (cc := cX1_give) (maxL := 10) (ret := none) (by decide) rfl ?_
  intro p e s m args below meth c s₁ B hml hv
  obtain ⟨rfl, hsz, hP, hK, hSt⟩ := hv
  have hts := atoms_spec (ws := wsU yX1_give cX1_give 10 none) B.pre
  have C : Cx p s m _ meth c cX1_give 10 wsL_law RX1 none D G ad := ⟨B.exec, B.bytes, hml, findClass_of_methodNamed B.named, fun w h => hts w (List.mem_cons_of_mem _ h), B.returns, B.notSynchronized, hK, had, hSt⟩
  subst hsz
  have hl := lv_entry ([.ref (ad b), .ref (ad 1), .int a2, .long a3]) (n := 10) (Nat.le_of_ble_eq_true rfl)
  rw [lg_entry_eq]
  generalize (lg_sl ([.ref (ad b), .ref (ad 1), .int a2, .long a3]) ++ List.replicate (10 - (lg_sl ([.ref (ad b), .ref (ad 1), .int a2, .long a3])).length) Slot.unset).toArray = ls at hl ⊢
  exact wX1_give_s0 C n b a2 a3 ib  st res hf s.heap [] ls (lv_sub hl [0, 1, 2, 3] rfl) hP va_S.rf
section
variable {p : Program} {l : Launch} {e : Env} {s : State} {m : MethodId} {args : Array Value} {below : List Frame} {meth : Method} {c : Code} {D : va_G} {G : G3} {ad : Nat → Nat}
def fX1_learn_s92 (n : Nat)  (b : Nat)  (st : St) : Option (Unit × St) := some ((), st)
set_option maxHeartbeats 4000000 in
set_option maxRecDepth 100000 in
theorem wX1_learn_s92 (C : Cx p s m args meth c cX1_learn 9 wsL_law RX1 none D G ad) (n : Nat)  (b : Nat)  (ib : isFl b)  (st : St) (res : (Unit × St))  (hf : fX1_learn_s92 n  b  st = some res) : At p l e (rmK 2) s m args below meth c D G ad (MQV D G ad below args s res) 9 st [] 92 [] := by
  obtain ⟨hx, hb, hml, hown, hts, hr, hlk, hK, had, hSt⟩ := id C
  intro H locs ls hl hP hS
  unfold fX1_learn_s92 at hf
  exact g_vret hx hb hr hlk hP hS dX1_learn_92 hf
def fX1_learn_s150 (n : Nat)  (b : Nat)  (st : St) : Option (Unit × St) := some ((), st)
set_option maxHeartbeats 4000000 in
set_option maxRecDepth 100000 in
theorem wX1_learn_s150 (C : Cx p s m args meth c cX1_learn 9 wsL_law RX1 none D G ad) (n : Nat)  (b : Nat)  (ib : isFl b)  (st : St) (res : (Unit × St))  (hf : fX1_learn_s150 n  b  st = some res) : At p l e (rmK 2) s m args below meth c D G ad (MQV D G ad below args s res) 9 st [] 150 [] := by
  obtain ⟨hx, hb, hml, hown, hts, hr, hlk, hK, had, hSt⟩ := id C
  intro H locs ls hl hP hS
  unfold fX1_learn_s150 at hf
  exact g_vret hx hb hr hlk hP hS dX1_learn_150 hf
def fX1_learn_s131 (n : Nat)  (b : Nat) (v4 : Int32) (v6 : Int32) (v8 : Int32) (st : St) : Option (Unit × St) := if inb ((v6 * 4) + (v4 - v4 / 4 * 4)) 32 = true then (if inb ((v6 * 4) + (v4 - v4 / 4 * 4)) 32 = true then (fX1_learn_s150 n b (setI st (b + 8) ((v6 * 4) + (v4 - v4 / 4 * 4)).toNatClampNeg ((st.1 (b + 8) ((v6 * 4) + (v4 - v4 / 4 * 4)).toNatClampNeg) + v8))) else none) else none
set_option maxHeartbeats 4000000 in
set_option maxRecDepth 100000 in
theorem wX1_learn_s131 (C : Cx p s m args meth c cX1_learn 9 wsL_law RX1 none D G ad) (n : Nat)  (b : Nat) (v4 : Int32) (v6 : Int32) (v8 : Int32) (ib : isFl b)  (st : St) (res : (Unit × St))  (hf : fX1_learn_s131 n  b v4 v6 v8 st = some res) : At p l e (rmK 2) s m args below meth c D G ad (MQV D G ad below args s res) 9 st [(0, .ref (ad b)), (4, .int v4), (6, .int v6), (8, .int v8)] 131 [] := by
  obtain ⟨hx, hb, hml, hown, hts, hr, hlk, hK, had, hSt⟩ := id C
  intro H locs ls hl hP hS
  unfold fX1_learn_s131 at hf
  refine lv_aload_n hx hb dX1_learn_131 rfl (lv_at hl 0 rfl) ?_
  refine g_getR hx hb hts inlX1 hown hK hP b (fl_0 ib) rfl 7 (by decide) (hts _ wm_6_19) rfl dX1_learn_132 ?_
  refine lv_iload hx hb dX1_learn_135 (lv_at hl 2 rfl) ?_
  refine lv_iconst (v := 4) hx hb dX1_learn_137 (by decide) ?_
  refine lv_imul hx hb dX1_learn_138 ?_
  refine lv_iload hx hb dX1_learn_139 (lv_at hl 1 rfl) ?_
  refine lv_iconst (v := 4) hx hb dX1_learn_141 (by decide) ?_
  refine lv_irem hx hb dX1_learn_142 (by decide) ?_
  refine lv_iadd hx hb dX1_learn_143 ?_
  refine lv_dup2_11 hx hb dX1_learn_144 rfl rfl ?_
  obtain ⟨g1, hf⟩ := gd hf
  refine g_iald hx hb hK hP (b + 8) (fl_8 ib) g1 dX1_learn_145 ?_
  refine lv_iload hx hb dX1_learn_146 (lv_at hl 3 rfl) ?_
  refine lv_iadd hx hb dX1_learn_148 ?_
  obtain ⟨g2, hf⟩ := gd hf
  refine g_iast hx hb hK had hP hS (b + 8) (fl_8 ib) g2 dX1_learn_149 (fun H locs hP hS => ?_)
  exact wX1_learn_s150 C n b ib (setI st (b + 8) ((v6 * 4) + (v4 - v4 / 4 * 4)).toNatClampNeg ((st.1 (b + 8) ((v6 * 4) + (v4 - v4 / 4 * 4)).toNatClampNeg) + v8)) res hf H locs ls (lv_sub hl [] rfl) hP hS
def fX1_learn_s119 (n : Nat)  (b : Nat) (v4 : Int32) (v6 : Int32) (v8 : Int32) (st : St) : Option (Unit × St) := if inb v6 8 = true then (if inb v6 8 = true then (fX1_learn_s131 n b v4 v6 v8 (setI st (b + 4) v6.toNatClampNeg ((st.1 (b + 4) v6.toNatClampNeg) + v8))) else none) else none
set_option maxHeartbeats 4000000 in
set_option maxRecDepth 100000 in
theorem wX1_learn_s119 (C : Cx p s m args meth c cX1_learn 9 wsL_law RX1 none D G ad) (n : Nat)  (b : Nat) (v4 : Int32) (v6 : Int32) (v8 : Int32) (ib : isFl b)  (st : St) (res : (Unit × St))  (hf : fX1_learn_s119 n  b v4 v6 v8 st = some res) : At p l e (rmK 2) s m args below meth c D G ad (MQV D G ad below args s res) 9 st [(0, .ref (ad b)), (4, .int v4), (6, .int v6), (8, .int v8)] 119 [] := by
  obtain ⟨hx, hb, hml, hown, hts, hr, hlk, hK, had, hSt⟩ := id C
  intro H locs ls hl hP hS
  unfold fX1_learn_s119 at hf
  refine lv_aload_n hx hb dX1_learn_119 rfl (lv_at hl 0 rfl) ?_
  refine g_getR hx hb hts inlX1 hown hK hP b (fl_0 ib) rfl 3 (by decide) (hts _ wm_6_15) rfl dX1_learn_120 ?_
  refine lv_iload hx hb dX1_learn_123 (lv_at hl 2 rfl) ?_
  refine lv_dup2_11 hx hb dX1_learn_125 rfl rfl ?_
  obtain ⟨g1, hf⟩ := gd hf
  refine g_iald hx hb hK hP (b + 4) (fl_4 ib) g1 dX1_learn_126 ?_
  refine lv_iload hx hb dX1_learn_127 (lv_at hl 3 rfl) ?_
  refine lv_iadd hx hb dX1_learn_129 ?_
  obtain ⟨g2, hf⟩ := gd hf
  refine g_iast hx hb hK had hP hS (b + 4) (fl_4 ib) g2 dX1_learn_130 (fun H locs hP hS => ?_)
  exact wX1_learn_s131 C n b v4 v6 v8 ib (setI st (b + 4) v6.toNatClampNeg ((st.1 (b + 4) v6.toNatClampNeg) + v8)) res hf H locs ls (lv_sub hl [0, 1, 2, 3] rfl) hP hS
def fX1_learn_s93 (n : Nat)  (b : Nat) (v2 : Int32) (v4 : Int32) (v6 : Int32) (v7 : Int32) (st : St) : Option (Unit × St) := if inb ((v2 * 4) + (v7 - v7 / 4 * 4)) 32 = true then (if inb v2 8 = true then (if inb v2 8 = true then (fX1_learn_s119 n b v4 v6 (st.1 (b + 9) ((v2 * 4) + (v7 - v7 / 4 * 4)).toNatClampNeg) (setI st (b + 5) v2.toNatClampNeg ((st.1 (b + 5) v2.toNatClampNeg) + (st.1 (b + 9) ((v2 * 4) + (v7 - v7 / 4 * 4)).toNatClampNeg)))) else none) else none) else none
set_option maxHeartbeats 4000000 in
set_option maxRecDepth 100000 in
theorem wX1_learn_s93 (C : Cx p s m args meth c cX1_learn 9 wsL_law RX1 none D G ad) (n : Nat)  (b : Nat) (v2 : Int32) (v4 : Int32) (v6 : Int32) (v7 : Int32) (ib : isFl b)  (st : St) (res : (Unit × St))  (hf : fX1_learn_s93 n  b v2 v4 v6 v7 st = some res) : At p l e (rmK 2) s m args below meth c D G ad (MQV D G ad below args s res) 9 st [(0, .ref (ad b)), (2, .int v2), (4, .int v4), (6, .int v6), (7, .int v7)] 93 [] := by
  obtain ⟨hx, hb, hml, hown, hts, hr, hlk, hK, had, hSt⟩ := id C
  intro H locs ls hl hP hS
  unfold fX1_learn_s93 at hf
  refine lv_aload_n hx hb dX1_learn_93 rfl (lv_at hl 0 rfl) ?_
  refine g_getR hx hb hts inlX1 hown hK hP b (fl_0 ib) rfl 8 (by decide) (hts _ wm_6_20) rfl dX1_learn_94 ?_
  refine lv_iload_n hx hb dX1_learn_97 rfl (lv_at hl 1 rfl) ?_
  refine lv_iconst (v := 4) hx hb dX1_learn_98 (by decide) ?_
  refine lv_imul hx hb dX1_learn_99 ?_
  refine lv_iload hx hb dX1_learn_100 (lv_at hl 4 rfl) ?_
  refine lv_iconst (v := 4) hx hb dX1_learn_102 (by decide) ?_
  refine lv_irem hx hb dX1_learn_103 (by decide) ?_
  refine lv_iadd hx hb dX1_learn_104 ?_
  obtain ⟨g1, hf⟩ := gd hf
  refine g_iald hx hb hK hP (b + 9) (fl_9 ib) g1 dX1_learn_105 ?_
  refine lv_istore (lv' := [(8, .int (st.1 (b + 9) ((v2 * 4) + (v7 - v7 / 4 * 4)).toNatClampNeg)), (0, .ref (ad b)), (2, .int v2), (4, .int v4), (6, .int v6), (7, .int v7)]) hx hb dX1_learn_106 hl (by decide) rfl (fun ls hl => ?_)
  refine lv_aload_n hx hb dX1_learn_108 rfl (lv_at hl 1 rfl) ?_
  refine g_getR hx hb hts inlX1 hown hK hP b (fl_0 ib) rfl 4 (by decide) (hts _ wm_6_16) rfl dX1_learn_109 ?_
  refine lv_iload_n hx hb dX1_learn_112 rfl (lv_at hl 2 rfl) ?_
  refine lv_dup2_11 hx hb dX1_learn_113 rfl rfl ?_
  obtain ⟨g2, hf⟩ := gd hf
  refine g_iald hx hb hK hP (b + 5) (fl_5 ib) g2 dX1_learn_114 ?_
  refine lv_iload hx hb dX1_learn_115 (lv_at hl 0 rfl) ?_
  refine lv_iadd hx hb dX1_learn_117 ?_
  obtain ⟨g3, hf⟩ := gd hf
  refine g_iast hx hb hK had hP hS (b + 5) (fl_5 ib) g3 dX1_learn_118 (fun H locs hP hS => ?_)
  exact wX1_learn_s119 C n b v4 v6 (st.1 (b + 9) ((v2 * 4) + (v7 - v7 / 4 * 4)).toNatClampNeg) ib (setI st (b + 5) v2.toNatClampNeg ((st.1 (b + 5) v2.toNatClampNeg) + (st.1 (b + 9) ((v2 * 4) + (v7 - v7 / 4 * 4)).toNatClampNeg))) res hf H locs ls (lv_sub hl [1, 3, 4, 0] rfl) hP hS
def fX1_learn_s89 (n : Nat)  (b : Nat) (v2 : Int32) (v4 : Int32) (v6 : Int32) (v7 : Int32) (k0 : Int32) (st : St) : Option (Unit × St) := if k0 = 0 then fX1_learn_s92 n b st else fX1_learn_s93 n b v2 v4 v6 v7 st
set_option maxHeartbeats 4000000 in
set_option maxRecDepth 100000 in
theorem wX1_learn_s89 (C : Cx p s m args meth c cX1_learn 9 wsL_law RX1 none D G ad) (n : Nat)  (b : Nat) (v2 : Int32) (v4 : Int32) (v6 : Int32) (v7 : Int32) (k0 : Int32) (ib : isFl b)  (st : St) (res : (Unit × St))  (hf : fX1_learn_s89 n  b v2 v4 v6 v7 k0 st = some res) : At p l e (rmK 2) s m args below meth c D G ad (MQV D G ad below args s res) 9 st [(0, .ref (ad b)), (2, .int v2), (4, .int v4), (6, .int v6), (7, .int v7)] 89 [.int k0] := by
  obtain ⟨hx, hb, hml, hown, hts, hr, hlk, hK, had, hSt⟩ := id C
  intro H locs ls hl hP hS
  unfold fX1_learn_s89 at hf
  refine lv_if_ne (tgt := 93) hx hb dX1_learn_89 (by decide) (fun q => ?_) (fun q => ?_)
  · exact wX1_learn_s93 C n b v2 v4 v6 v7 ib st res (ie hf q) H locs ls (lv_sub hl [0, 1, 2, 3, 4] rfl) hP hS
  · exact wX1_learn_s92 C n b ib st res (it hf q) H locs ls (lv_sub hl [] rfl) hP hS
def fX1_learn_s83 (n : Nat)  (b : Nat) (v2 : Int32) (v4 : Int32) (v6 : Int32) (v7 : Int32) (st : St) : Option (Unit × St) := (fX6_has n v6 st).bind (fun q => fX1_learn_s89 n b v2 v4 v6 v7 q.1 q.2)
set_option maxHeartbeats 4000000 in
set_option maxRecDepth 100000 in
theorem wX1_learn_s83 (C : Cx p s m args meth c cX1_learn 9 wsL_law RX1 none D G ad) (n : Nat)  (b : Nat) (v2 : Int32) (v4 : Int32) (v6 : Int32) (v7 : Int32) (ib : isFl b)  (st : St) (res : (Unit × St))  (hf : fX1_learn_s83 n  b v2 v4 v6 v7 st = some res) : At p l e (rmK 2) s m args below meth c D G ad (MQV D G ad below args s res) 9 st [(0, .ref (ad b)), (1, .ref (ad 1)), (2, .int v2), (4, .int v4), (6, .int v6), (7, .int v7)] 83 [] := by
  obtain ⟨hx, hb, hml, hown, hts, hr, hlk, hK, had, hSt⟩ := id C
  intro H locs ls hl hP hS
  unfold fX1_learn_s83 at hf
  refine lv_aload_n hx hb dX1_learn_83 rfl (lv_at hl 1 rfl) ?_
  refine lv_iload hx hb dX1_learn_84 (lv_at hl 4 rfl) ?_
  obtain ⟨q, hq, hf⟩ := bd hf
  refine gcV_i (k := 0) (o := 1) (As := [.int v6]) (rest := []) hx hb hml hown hts hK hSt hP hS hl.1 (goodV wm_18_13 wm_9_13 wm_9_14 wm_1_15 wm_9_15) okX6_has ct_1 rfl rfl (Nat.le_of_ble_eq_true rfl) (Nat.le_of_ble_eq_true rfl) rfl rfl (Nat.le_of_ble_eq_true rfl) dX1_learn_86 (kX6_has l D G ad had n  v6 st q hq) (fun H locs hP hS => ?_)
  exact wX1_learn_s89 C n b v2 v4 v6 v7 q.1 ib q.2 res hf H locs ls (lv_sub hl [0, 2, 3, 4, 5] rfl) hP hS
def fX1_learn_s57 (n : Nat)  (b : Nat) (v2 : Int32) (v4 : Int32) (st : St) : Option (Unit × St) := if inb v2 8 = true then (if inb v2 8 = true then (if ((v4 - 1) - (st.1 5 v2.toNatClampNeg)) < 0 then fX1_learn_s92 n b st else fX1_learn_s83 n b v2 v4 (st.1 3 v2.toNatClampNeg) ((v4 - 1) - (st.1 5 v2.toNatClampNeg)) st) else none) else none
set_option maxHeartbeats 4000000 in
set_option maxRecDepth 100000 in
theorem wX1_learn_s57 (C : Cx p s m args meth c cX1_learn 9 wsL_law RX1 none D G ad) (n : Nat)  (b : Nat) (v2 : Int32) (v4 : Int32) (ib : isFl b)  (st : St) (res : (Unit × St))  (hf : fX1_learn_s57 n  b v2 v4 st = some res) : At p l e (rmK 2) s m args below meth c D G ad (MQV D G ad below args s res) 9 st [(0, .ref (ad b)), (1, .ref (ad 1)), (2, .int v2), (4, .int v4)] 57 [] := by
  obtain ⟨hx, hb, hml, hown, hts, hr, hlk, hK, had, hSt⟩ := id C
  intro H locs ls hl hP hS
  unfold fX1_learn_s57 at hf
  refine lv_aload_n hx hb dX1_learn_57 rfl (lv_at hl 1 rfl) ?_
  refine g_getR hx hb hts inlX6 hown hK hP 1 ct_1 rfl 1 (by decide) (hts _ wm_18_10) rfl dX1_learn_58 ?_
  refine lv_iload_n hx hb dX1_learn_61 rfl (lv_at hl 2 rfl) ?_
  obtain ⟨g1, hf⟩ := gd hf
  refine g_iald hx hb hK hP 3 ct_3 g1 dX1_learn_62 ?_
  refine lv_istore (lv' := [(6, .int (st.1 3 v2.toNatClampNeg)), (0, .ref (ad b)), (1, .ref (ad 1)), (2, .int v2), (4, .int v4)]) hx hb dX1_learn_63 hl (by decide) rfl (fun ls hl => ?_)
  refine lv_iload hx hb dX1_learn_65 (lv_at hl 4 rfl) ?_
  refine lv_iconst (v := 1) hx hb dX1_learn_67 (by decide) ?_
  refine lv_isub hx hb dX1_learn_68 ?_
  refine lv_aload_n hx hb dX1_learn_69 rfl (lv_at hl 2 rfl) ?_
  refine g_getR hx hb hts inlX6 hown hK hP 1 ct_1 rfl 3 (by decide) (hts _ wm_18_11) rfl dX1_learn_70 ?_
  refine lv_iload_n hx hb dX1_learn_73 rfl (lv_at hl 3 rfl) ?_
  obtain ⟨g2, hf⟩ := gd hf
  refine g_iald hx hb hK hP 5 ct_5 g2 dX1_learn_74 ?_
  refine lv_isub hx hb dX1_learn_75 ?_
  refine lv_istore (lv' := [(7, .int ((v4 - 1) - (st.1 5 v2.toNatClampNeg))), (6, .int (st.1 3 v2.toNatClampNeg)), (0, .ref (ad b)), (1, .ref (ad 1)), (2, .int v2), (4, .int v4)]) hx hb dX1_learn_76 hl (by decide) rfl (fun ls hl => ?_)
  refine lv_iload hx hb dX1_learn_78 (lv_at hl 0 rfl) ?_
  refine lv_if_lt (tgt := 92) hx hb dX1_learn_80 (by decide) (fun q => ?_) (fun q => ?_)
  · exact wX1_learn_s92 C n b ib st res (it hf q) H locs ls (lv_sub hl [] rfl) hP hS
  · exact wX1_learn_s83 C n b v2 v4 (st.1 3 v2.toNatClampNeg) ((v4 - 1) - (st.1 5 v2.toNatClampNeg)) ib st res (ie hf q) H locs ls (lv_sub hl [2, 3, 4, 5, 1, 0] rfl) hP hS
def fX1_learn_s55 (n : Nat)  (b : Nat) (v2 : Int32) (v4 : Int32) (k1 : Int32) (k2 : Int32) (k3 : Int32) (st : St) : Option (Unit × St) := if inb k1 8 = true then (fX1_learn_s57 n b v2 v4 (setI st (b + 4) k1.toNatClampNeg (k2 + k3))) else none
set_option maxHeartbeats 4000000 in
set_option maxRecDepth 100000 in
theorem wX1_learn_s55 (C : Cx p s m args meth c cX1_learn 9 wsL_law RX1 none D G ad) (n : Nat)  (b : Nat) (v2 : Int32) (v4 : Int32) (k1 : Int32) (k2 : Int32) (k3 : Int32) (ib : isFl b)  (st : St) (res : (Unit × St))  (hf : fX1_learn_s55 n  b v2 v4 k1 k2 k3 st = some res) : At p l e (rmK 2) s m args below meth c D G ad (MQV D G ad below args s res) 9 st [(0, .ref (ad b)), (1, .ref (ad 1)), (2, .int v2), (4, .int v4)] 55 [.int k3, .int k2, .int k1, .ref (ad (b + 4))] := by
  obtain ⟨hx, hb, hml, hown, hts, hr, hlk, hK, had, hSt⟩ := id C
  intro H locs ls hl hP hS
  unfold fX1_learn_s55 at hf
  refine lv_iadd hx hb dX1_learn_55 ?_
  obtain ⟨g1, hf⟩ := gd hf
  refine g_iast hx hb hK had hP hS (b + 4) (fl_4 ib) g1 dX1_learn_56 (fun H locs hP hS => ?_)
  exact wX1_learn_s57 C n b v2 v4 ib (setI st (b + 4) k1.toNatClampNeg (k2 + k3)) res hf H locs ls (lv_sub hl [0, 1, 2, 3] rfl) hP hS
def fX1_learn_s54 (n : Nat)  (b : Nat) (v2 : Int32) (v4 : Int32) (k1 : Int32) (k2 : Int32) (st : St) : Option (Unit × St) := fX1_learn_s55 n b v2 v4 k1 k2 0 st
set_option maxHeartbeats 4000000 in
set_option maxRecDepth 100000 in
theorem wX1_learn_s54 (C : Cx p s m args meth c cX1_learn 9 wsL_law RX1 none D G ad) (n : Nat)  (b : Nat) (v2 : Int32) (v4 : Int32) (k1 : Int32) (k2 : Int32) (ib : isFl b)  (st : St) (res : (Unit × St))  (hf : fX1_learn_s54 n  b v2 v4 k1 k2 st = some res) : At p l e (rmK 2) s m args below meth c D G ad (MQV D G ad below args s res) 9 st [(0, .ref (ad b)), (1, .ref (ad 1)), (2, .int v2), (4, .int v4)] 54 [.int k2, .int k1, .ref (ad (b + 4))] := by
  obtain ⟨hx, hb, hml, hown, hts, hr, hlk, hK, had, hSt⟩ := id C
  intro H locs ls hl hP hS
  unfold fX1_learn_s54 at hf
  refine lv_iconst (v := 0) hx hb dX1_learn_54 (by decide) ?_
  exact wX1_learn_s55 C n b v2 v4 k1 k2 0 ib st res hf H locs ls (lv_sub hl [0, 1, 2, 3] rfl) hP hS
def fX1_learn_s50 (n : Nat)  (b : Nat) (v2 : Int32) (v3 : Int32) (v4 : Int32) (k1 : Int32) (k2 : Int32) (st : St) : Option (Unit × St) := fX1_learn_s55 n b v2 v4 k1 k2 v3 st
set_option maxHeartbeats 4000000 in
set_option maxRecDepth 100000 in
theorem wX1_learn_s50 (C : Cx p s m args meth c cX1_learn 9 wsL_law RX1 none D G ad) (n : Nat)  (b : Nat) (v2 : Int32) (v3 : Int32) (v4 : Int32) (k1 : Int32) (k2 : Int32) (ib : isFl b)  (st : St) (res : (Unit × St))  (hf : fX1_learn_s50 n  b v2 v3 v4 k1 k2 st = some res) : At p l e (rmK 2) s m args below meth c D G ad (MQV D G ad below args s res) 9 st [(0, .ref (ad b)), (1, .ref (ad 1)), (2, .int v2), (3, .int v3), (4, .int v4)] 50 [.int k2, .int k1, .ref (ad (b + 4))] := by
  obtain ⟨hx, hb, hml, hown, hts, hr, hlk, hK, had, hSt⟩ := id C
  intro H locs ls hl hP hS
  unfold fX1_learn_s50 at hf
  refine lv_iload_n hx hb dX1_learn_50 rfl (lv_at hl 3 rfl) ?_
  refine lv_goto (tgt := 55) hx hb dX1_learn_51 (by decide) ?_
  exact wX1_learn_s55 C n b v2 v4 k1 k2 v3 ib st res hf H locs ls (lv_sub hl [0, 1, 2, 4] rfl) hP hS
def fX1_learn_s38 (n : Nat)  (b : Nat) (v2 : Int32) (v3 : Int32) (v4 : Int32) (v5 : Int32) (st : St) : Option (Unit × St) := if inb v2 8 = true then (if v5 = 0 then fX1_learn_s54 n b v2 v4 v2 (st.1 (b + 4) v2.toNatClampNeg) st else fX1_learn_s50 n b v2 v3 v4 v2 (st.1 (b + 4) v2.toNatClampNeg) st) else none
set_option maxHeartbeats 4000000 in
set_option maxRecDepth 100000 in
theorem wX1_learn_s38 (C : Cx p s m args meth c cX1_learn 9 wsL_law RX1 none D G ad) (n : Nat)  (b : Nat) (v2 : Int32) (v3 : Int32) (v4 : Int32) (v5 : Int32) (ib : isFl b)  (st : St) (res : (Unit × St))  (hf : fX1_learn_s38 n  b v2 v3 v4 v5 st = some res) : At p l e (rmK 2) s m args below meth c D G ad (MQV D G ad below args s res) 9 st [(0, .ref (ad b)), (1, .ref (ad 1)), (2, .int v2), (3, .int v3), (4, .int v4), (5, .int v5)] 38 [] := by
  obtain ⟨hx, hb, hml, hown, hts, hr, hlk, hK, had, hSt⟩ := id C
  intro H locs ls hl hP hS
  unfold fX1_learn_s38 at hf
  refine lv_aload_n hx hb dX1_learn_38 rfl (lv_at hl 0 rfl) ?_
  refine g_getR hx hb hts inlX1 hown hK hP b (fl_0 ib) rfl 3 (by decide) (hts _ wm_6_15) rfl dX1_learn_39 ?_
  refine lv_iload_n hx hb dX1_learn_42 rfl (lv_at hl 2 rfl) ?_
  refine lv_dup2_11 hx hb dX1_learn_43 rfl rfl ?_
  obtain ⟨g1, hf⟩ := gd hf
  refine g_iald hx hb hK hP (b + 4) (fl_4 ib) g1 dX1_learn_44 ?_
  refine lv_iload hx hb dX1_learn_45 (lv_at hl 5 rfl) ?_
  refine lv_if_eq (tgt := 54) hx hb dX1_learn_47 (by decide) (fun q => ?_) (fun q => ?_)
  · exact wX1_learn_s54 C n b v2 v4 v2 (st.1 (b + 4) v2.toNatClampNeg) ib st res (it hf q) H locs ls (lv_sub hl [0, 1, 2, 4] rfl) hP hS
  · exact wX1_learn_s50 C n b v2 v3 v4 v2 (st.1 (b + 4) v2.toNatClampNeg) ib st res (ie hf q) H locs ls (lv_sub hl [0, 1, 2, 3, 4] rfl) hP hS
def fX1_learn_s37 (n : Nat)  (b : Nat) (v2 : Int32) (v3 : Int32) (v4 : Int32) (v5 : Int32) (k1 : Int32) (k2 : Int32) (st : St) : Option (Unit × St) := if inb k1 32 = true then (fX1_learn_s38 n b v2 v3 v4 v5 (setI st (b + 8) k1.toNatClampNeg k2)) else none
set_option maxHeartbeats 4000000 in
set_option maxRecDepth 100000 in
theorem wX1_learn_s37 (C : Cx p s m args meth c cX1_learn 9 wsL_law RX1 none D G ad) (n : Nat)  (b : Nat) (v2 : Int32) (v3 : Int32) (v4 : Int32) (v5 : Int32) (k1 : Int32) (k2 : Int32) (ib : isFl b)  (st : St) (res : (Unit × St))  (hf : fX1_learn_s37 n  b v2 v3 v4 v5 k1 k2 st = some res) : At p l e (rmK 2) s m args below meth c D G ad (MQV D G ad below args s res) 9 st [(0, .ref (ad b)), (1, .ref (ad 1)), (2, .int v2), (3, .int v3), (4, .int v4), (5, .int v5)] 37 [.int k2, .int k1, .ref (ad (b + 8))] := by
  obtain ⟨hx, hb, hml, hown, hts, hr, hlk, hK, had, hSt⟩ := id C
  intro H locs ls hl hP hS
  unfold fX1_learn_s37 at hf
  obtain ⟨g1, hf⟩ := gd hf
  refine g_iast hx hb hK had hP hS (b + 8) (fl_8 ib) g1 dX1_learn_37 (fun H locs hP hS => ?_)
  exact wX1_learn_s38 C n b v2 v3 v4 v5 ib (setI st (b + 8) k1.toNatClampNeg k2) res hf H locs ls (lv_sub hl [0, 1, 2, 3, 4, 5] rfl) hP hS
def fX1_learn_s36 (n : Nat)  (b : Nat) (v2 : Int32) (v3 : Int32) (v4 : Int32) (v5 : Int32) (k1 : Int32) (st : St) : Option (Unit × St) := fX1_learn_s37 n b v2 v3 v4 v5 k1 0 st
set_option maxHeartbeats 4000000 in
set_option maxRecDepth 100000 in
theorem wX1_learn_s36 (C : Cx p s m args meth c cX1_learn 9 wsL_law RX1 none D G ad) (n : Nat)  (b : Nat) (v2 : Int32) (v3 : Int32) (v4 : Int32) (v5 : Int32) (k1 : Int32) (ib : isFl b)  (st : St) (res : (Unit × St))  (hf : fX1_learn_s36 n  b v2 v3 v4 v5 k1 st = some res) : At p l e (rmK 2) s m args below meth c D G ad (MQV D G ad below args s res) 9 st [(0, .ref (ad b)), (1, .ref (ad 1)), (2, .int v2), (3, .int v3), (4, .int v4), (5, .int v5)] 36 [.int k1, .ref (ad (b + 8))] := by
  obtain ⟨hx, hb, hml, hown, hts, hr, hlk, hK, had, hSt⟩ := id C
  intro H locs ls hl hP hS
  unfold fX1_learn_s36 at hf
  refine lv_iconst (v := 0) hx hb dX1_learn_36 (by decide) ?_
  exact wX1_learn_s37 C n b v2 v3 v4 v5 k1 0 ib st res hf H locs ls (lv_sub hl [0, 1, 2, 3, 4, 5] rfl) hP hS
def fX1_learn_s32 (n : Nat)  (b : Nat) (v2 : Int32) (v3 : Int32) (v4 : Int32) (v5 : Int32) (k1 : Int32) (st : St) : Option (Unit × St) := fX1_learn_s37 n b v2 v3 v4 v5 k1 v3 st
set_option maxHeartbeats 4000000 in
set_option maxRecDepth 100000 in
theorem wX1_learn_s32 (C : Cx p s m args meth c cX1_learn 9 wsL_law RX1 none D G ad) (n : Nat)  (b : Nat) (v2 : Int32) (v3 : Int32) (v4 : Int32) (v5 : Int32) (k1 : Int32) (ib : isFl b)  (st : St) (res : (Unit × St))  (hf : fX1_learn_s32 n  b v2 v3 v4 v5 k1 st = some res) : At p l e (rmK 2) s m args below meth c D G ad (MQV D G ad below args s res) 9 st [(0, .ref (ad b)), (1, .ref (ad 1)), (2, .int v2), (3, .int v3), (4, .int v4), (5, .int v5)] 32 [.int k1, .ref (ad (b + 8))] := by
  obtain ⟨hx, hb, hml, hown, hts, hr, hlk, hK, had, hSt⟩ := id C
  intro H locs ls hl hP hS
  unfold fX1_learn_s32 at hf
  refine lv_iload_n hx hb dX1_learn_32 rfl (lv_at hl 3 rfl) ?_
  refine lv_goto (tgt := 37) hx hb dX1_learn_33 (by decide) ?_
  exact wX1_learn_s37 C n b v2 v3 v4 v5 k1 v3 ib st res hf H locs ls (lv_sub hl [0, 1, 2, 3, 4, 5] rfl) hP hS
def fX1_learn_s13 (n : Nat)  (b : Nat) (v2 : Int32) (v3 : Int32) (v4 : Int32) (k0 : Int32) (st : St) : Option (Unit × St) := if k0 = 0 then fX1_learn_s36 n b v2 v3 v4 k0 ((v2 * 4) + (v4 - v4 / 4 * 4)) st else fX1_learn_s32 n b v2 v3 v4 k0 ((v2 * 4) + (v4 - v4 / 4 * 4)) st
set_option maxHeartbeats 4000000 in
set_option maxRecDepth 100000 in
theorem wX1_learn_s13 (C : Cx p s m args meth c cX1_learn 9 wsL_law RX1 none D G ad) (n : Nat)  (b : Nat) (v2 : Int32) (v3 : Int32) (v4 : Int32) (k0 : Int32) (ib : isFl b)  (st : St) (res : (Unit × St))  (hf : fX1_learn_s13 n  b v2 v3 v4 k0 st = some res) : At p l e (rmK 2) s m args below meth c D G ad (MQV D G ad below args s res) 9 st [(0, .ref (ad b)), (1, .ref (ad 1)), (2, .int v2), (3, .int v3), (4, .int v4)] 13 [.int k0] := by
  obtain ⟨hx, hb, hml, hown, hts, hr, hlk, hK, had, hSt⟩ := id C
  intro H locs ls hl hP hS
  unfold fX1_learn_s13 at hf
  refine lv_istore (lv' := [(5, .int k0), (0, .ref (ad b)), (1, .ref (ad 1)), (2, .int v2), (3, .int v3), (4, .int v4)]) hx hb dX1_learn_13 hl (by decide) rfl (fun ls hl => ?_)
  refine lv_aload_n hx hb dX1_learn_15 rfl (lv_at hl 1 rfl) ?_
  refine g_getR hx hb hts inlX1 hown hK hP b (fl_0 ib) rfl 7 (by decide) (hts _ wm_6_19) rfl dX1_learn_16 ?_
  refine lv_iload_n hx hb dX1_learn_19 rfl (lv_at hl 3 rfl) ?_
  refine lv_iconst (v := 4) hx hb dX1_learn_20 (by decide) ?_
  refine lv_imul hx hb dX1_learn_21 ?_
  refine lv_iload hx hb dX1_learn_22 (lv_at hl 5 rfl) ?_
  refine lv_iconst (v := 4) hx hb dX1_learn_24 (by decide) ?_
  refine lv_irem hx hb dX1_learn_25 (by decide) ?_
  refine lv_iadd hx hb dX1_learn_26 ?_
  refine lv_iload hx hb dX1_learn_27 (lv_at hl 0 rfl) ?_
  refine lv_if_eq (tgt := 36) hx hb dX1_learn_29 (by decide) (fun q => ?_) (fun q => ?_)
  · exact wX1_learn_s36 C n b v2 v3 v4 k0 ((v2 * 4) + (v4 - v4 / 4 * 4)) ib st res (it hf q) H locs ls (lv_sub hl [1, 2, 3, 4, 5, 0] rfl) hP hS
  · exact wX1_learn_s32 C n b v2 v3 v4 k0 ((v2 * 4) + (v4 - v4 / 4 * 4)) ib st res (ie hf q) H locs ls (lv_sub hl [1, 2, 3, 4, 5, 0] rfl) hP hS
def fX1_learn_s0 (n : Nat)  (b : Nat) (v2 : Int32) (v3 : Int32) (st : St) : Option (Unit × St) := (fX6_isShop n v2 st).bind (fun q => fX1_learn_s13 n b v2 v3 ((st.1 b 10) - 1) q.1 q.2)
set_option maxHeartbeats 4000000 in
set_option maxRecDepth 100000 in
theorem wX1_learn_s0 (C : Cx p s m args meth c cX1_learn 9 wsL_law RX1 none D G ad) (n : Nat)  (b : Nat) (v2 : Int32) (v3 : Int32) (ib : isFl b)  (st : St) (res : (Unit × St))  (hf : fX1_learn_s0 n  b v2 v3 st = some res) : At p l e (rmK 2) s m args below meth c D G ad (MQV D G ad below args s res) 9 st [(0, .ref (ad b)), (1, .ref (ad 1)), (2, .int v2), (3, .int v3)] 0 [] := by
  obtain ⟨hx, hb, hml, hown, hts, hr, hlk, hK, had, hSt⟩ := id C
  intro H locs ls hl hP hS
  unfold fX1_learn_s0 at hf
  refine lv_aload_n hx hb dX1_learn_0 rfl (lv_at hl 0 rfl) ?_
  refine g_getI hx hb hts inlX1 hown hK hP b (fl_0 ib) rfl 10 (by decide) (hts _ wm_13_12) rfl dX1_learn_1 ?_
  refine lv_iconst (v := 1) hx hb dX1_learn_4 (by decide) ?_
  refine lv_isub hx hb dX1_learn_5 ?_
  refine lv_istore (lv' := [(4, .int ((st.1 b 10) - 1)), (0, .ref (ad b)), (1, .ref (ad 1)), (2, .int v2), (3, .int v3)]) hx hb dX1_learn_6 hl (by decide) rfl (fun ls hl => ?_)
  refine lv_aload_n hx hb dX1_learn_8 rfl (lv_at hl 2 rfl) ?_
  refine lv_iload_n hx hb dX1_learn_9 rfl (lv_at hl 3 rfl) ?_
  obtain ⟨q, hq, hf⟩ := bd hf
  refine gcV_i (k := 1) (o := 1) (As := [.int v2]) (rest := []) hx hb hml hown hts hK hSt hP hS hl.1 (goodV wm_18_12 wm_9_21 wm_9_22 wm_1_15 wm_9_23) okX6_isShop ct_1 rfl rfl (Nat.le_of_ble_eq_true rfl) (Nat.le_of_ble_eq_true rfl) rfl rfl (Nat.le_of_ble_eq_true rfl) dX1_learn_10 (kX6_isShop l D G ad had n  v2 st q hq) (fun H locs hP hS => ?_)
  exact wX1_learn_s13 C n b v2 v3 ((st.1 b 10) - 1) q.1 ib q.2 res hf H locs ls (lv_sub hl [1, 2, 3, 4, 0] rfl) hP hS
def fX1_learn (n : Nat) (b : Nat) (a2 : Int32) (a3 : Int32) (st : St) : Option (Unit × St) := fX1_learn_s0 n b a2 a3 st
theorem okX1_learn : okY yX1_learn RX1 3 := by unfold okY; decide +kernel
end
set_option maxRecDepth 100000 in
theorem kX1_learn (l : Launch) (D : va_G) (G : G3) (ad : Nat → Nat) (had : Adr ad) (n : Nat) (b : Nat) (ib : isFl b) (a2 : Int32) (a3 : Int32) (st : St) (res : (Unit × St)) (hf : fX1_learn n b a2 a3 st = some res) {sz : Nat} : CtV l yX1_learn (wsU yX1_learn cX1_learn 9 none) (rmK 2) D G ad sz [.ref (ad b), .ref (ad 1), .int a2, .int a3] st res := by
  refine Met.ofW (cc := cX1_learn) (maxL := 9) (ret := none) (by decide) rfl ?_
  intro p e s m args below meth c s₁ B hml hv
  obtain ⟨rfl, hsz, hP, hK, hSt⟩ := hv
  have hts := atoms_spec (ws := wsU yX1_learn cX1_learn 9 none) B.pre
  have C : Cx p s m _ meth c cX1_learn 9 wsL_law RX1 none D G ad := ⟨B.exec, B.bytes, hml, findClass_of_methodNamed B.named, fun w h => hts w (List.mem_cons_of_mem _ h), B.returns, B.notSynchronized, hK, had, hSt⟩
  subst hsz
  have hl := lv_entry ([.ref (ad b), .ref (ad 1), .int a2, .int a3]) (n := 9) (Nat.le_of_ble_eq_true rfl)
  rw [lg_entry_eq]
  generalize (lg_sl ([.ref (ad b), .ref (ad 1), .int a2, .int a3]) ++ List.replicate (9 - (lg_sl ([.ref (ad b), .ref (ad 1), .int a2, .int a3])).length) Slot.unset).toArray = ls at hl ⊢
  exact wX1_learn_s0 C n b a2 a3 ib  st res hf s.heap [] ls (lv_sub hl [0, 1, 2, 3] rfl) hP va_S.rf
section
variable {p : Program} {l : Launch} {e : Env} {s : State} {m : MethodId} {args : Array Value} {below : List Frame} {meth : Method} {c : Code} {D : va_G} {G : G3} {ad : Nat → Nat}
def fX1_deliver_s98 (n : Nat)  (b : Nat) (v4 : Int32) (st : St) : Option (Int32 × St) := some (v4, st)
set_option maxHeartbeats 4000000 in
set_option maxRecDepth 100000 in
theorem wX1_deliver_s98 (C : Cx p s m args meth c cX1_deliver 8 wsL_law RX1 (some .int) D G ad) (n : Nat)  (b : Nat) (v4 : Int32) (ib : isFl b)  (st : St) (res : (Int32 × St))  (hf : fX1_deliver_s98 n  b v4 st = some res) : At p l e (rmK 1) s m args below meth c D G ad (MQI D G ad below args s res) 8 st [(4, .int v4)] 98 [] := by
  obtain ⟨hx, hb, hml, hown, hts, hr, hlk, hK, had, hSt⟩ := id C
  intro H locs ls hl hP hS
  unfold fX1_deliver_s98 at hf
  refine lv_iload hx hb dX1_deliver_98 (lv_at hl 0 rfl) ?_
  exact g_iret hx hb hr hlk hP hS dX1_deliver_100 hf
def fX1_deliver_s92 (n : Nat) (K11 : Int32 → Int32 → Int32 → Int32 → St → Option (Int32 × St)) (b : Nat) (v2 : Int32) (v4 : Int32) (v5 : Int32) (v6 : Int32) (st : St) : Option (Int32 × St) := K11 v2 v4 v5 (v6 + 1) st
set_option maxHeartbeats 4000000 in
set_option maxRecDepth 100000 in
theorem wX1_deliver_s92 (C : Cx p s m args meth c cX1_deliver 8 wsL_law RX1 (some .int) D G ad) (n : Nat) (K11 : Int32 → Int32 → Int32 → Int32 → St → Option (Int32 × St)) (b : Nat) (v2 : Int32) (v4 : Int32) (v5 : Int32) (v6 : Int32) (ib : isFl b)  (st : St) (res : (Int32 × St)) (hK11 : ∀ (v2 : Int32) (v4 : Int32) (v5 : Int32) (v6 : Int32) (st : St), K11 v2 v4 v5 v6 st = some res → At p l e (rmK 1) s m args below meth c D G ad (MQI D G ad below args s res) 8 st [(0, .ref (ad b)), (1, .ref (ad 1)), (2, .int v2), (3, .ref (ad 18)), (4, .int v4), (5, .int v5), (6, .int v6)] 11 []) (hf : fX1_deliver_s92 n K11 b v2 v4 v5 v6 st = some res) : At p l e (rmK 1) s m args below meth c D G ad (MQI D G ad below args s res) 8 st [(0, .ref (ad b)), (1, .ref (ad 1)), (2, .int v2), (3, .ref (ad 18)), (4, .int v4), (5, .int v5), (6, .int v6)] 92 [] := by
  obtain ⟨hx, hb, hml, hown, hts, hr, hlk, hK, had, hSt⟩ := id C
  intro H locs ls hl hP hS
  unfold fX1_deliver_s92 at hf
  refine lv_iinc (v := v6 + 1) (lv' := [(6, .int (v6 + 1)), (0, .ref (ad b)), (1, .ref (ad 1)), (2, .int v2), (3, .ref (ad 18)), (4, .int v4), (5, .int v5)]) hx hb dX1_deliver_92 hl (k := 6) rfl rfl (by decide) rfl (fun ls hl => ?_)
  refine lv_goto (tgt := 11) hx hb dX1_deliver_95 (by decide) ?_
  exact hK11 v2 v4 v5 (v6 + 1)  st hf H locs ls (lv_sub hl [1, 2, 3, 4, 5, 6, 0] rfl) hP hS
def fX1_deliver_s85 (n : Nat) (K11 : Int32 → Int32 → Int32 → Int32 → St → Option (Int32 × St)) (b : Nat) (v2 : Int32) (v4 : Int32) (v5 : Int32) (v6 : Int32) (v7 : Int32) (st : St) : Option (Int32 × St) := fX1_deliver_s92 n K11 b v2 (v4 + v7) v5 v6 st
set_option maxHeartbeats 4000000 in
set_option maxRecDepth 100000 in
theorem wX1_deliver_s85 (C : Cx p s m args meth c cX1_deliver 8 wsL_law RX1 (some .int) D G ad) (n : Nat) (K11 : Int32 → Int32 → Int32 → Int32 → St → Option (Int32 × St)) (b : Nat) (v2 : Int32) (v4 : Int32) (v5 : Int32) (v6 : Int32) (v7 : Int32) (ib : isFl b)  (st : St) (res : (Int32 × St)) (hK11 : ∀ (v2 : Int32) (v4 : Int32) (v5 : Int32) (v6 : Int32) (st : St), K11 v2 v4 v5 v6 st = some res → At p l e (rmK 1) s m args below meth c D G ad (MQI D G ad below args s res) 8 st [(0, .ref (ad b)), (1, .ref (ad 1)), (2, .int v2), (3, .ref (ad 18)), (4, .int v4), (5, .int v5), (6, .int v6)] 11 []) (hf : fX1_deliver_s85 n K11 b v2 v4 v5 v6 v7 st = some res) : At p l e (rmK 1) s m args below meth c D G ad (MQI D G ad below args s res) 8 st [(0, .ref (ad b)), (1, .ref (ad 1)), (2, .int v2), (3, .ref (ad 18)), (4, .int v4), (5, .int v5), (6, .int v6), (7, .int v7)] 85 [] := by
  obtain ⟨hx, hb, hml, hown, hts, hr, hlk, hK, had, hSt⟩ := id C
  intro H locs ls hl hP hS
  unfold fX1_deliver_s85 at hf
  refine lv_iload hx hb dX1_deliver_85 (lv_at hl 4 rfl) ?_
  refine lv_iload hx hb dX1_deliver_87 (lv_at hl 7 rfl) ?_
  refine lv_iadd hx hb dX1_deliver_89 ?_
  refine lv_istore (lv' := [(4, .int (v4 + v7)), (0, .ref (ad b)), (1, .ref (ad 1)), (2, .int v2), (3, .ref (ad 18)), (5, .int v5), (6, .int v6), (7, .int v7)]) hx hb dX1_deliver_90 hl (by decide) rfl (fun ls hl => ?_)
  exact wX1_deliver_s92 C n K11 b v2 (v4 + v7) v5 v6 ib st res hK11 hf H locs ls (lv_sub hl [1, 2, 3, 4, 0, 5, 6] rfl) hP hS
def fX1_deliver_s76 (n : Nat) (K11 : Int32 → Int32 → Int32 → Int32 → St → Option (Int32 × St)) (b : Nat) (v2 : Int32) (v4 : Int32) (v5 : Int32) (v6 : Int32) (v7 : Int32) (st : St) : Option (Int32 × St) := (fX1_putOnWay n b v6 v7 st).bind (fun q => fX1_deliver_s85 n K11 b v2 v4 v5 v6 v7 q.2)
set_option maxHeartbeats 4000000 in
set_option maxRecDepth 100000 in
theorem wX1_deliver_s76 (C : Cx p s m args meth c cX1_deliver 8 wsL_law RX1 (some .int) D G ad) (n : Nat) (K11 : Int32 → Int32 → Int32 → Int32 → St → Option (Int32 × St)) (b : Nat) (v2 : Int32) (v4 : Int32) (v5 : Int32) (v6 : Int32) (v7 : Int32) (ib : isFl b)  (st : St) (res : (Int32 × St)) (hK11 : ∀ (v2 : Int32) (v4 : Int32) (v5 : Int32) (v6 : Int32) (st : St), K11 v2 v4 v5 v6 st = some res → At p l e (rmK 1) s m args below meth c D G ad (MQI D G ad below args s res) 8 st [(0, .ref (ad b)), (1, .ref (ad 1)), (2, .int v2), (3, .ref (ad 18)), (4, .int v4), (5, .int v5), (6, .int v6)] 11 []) (hf : fX1_deliver_s76 n K11 b v2 v4 v5 v6 v7 st = some res) : At p l e (rmK 1) s m args below meth c D G ad (MQI D G ad below args s res) 8 st [(0, .ref (ad b)), (1, .ref (ad 1)), (2, .int v2), (3, .ref (ad 18)), (4, .int v4), (5, .int v5), (6, .int v6), (7, .int v7)] 76 [] := by
  obtain ⟨hx, hb, hml, hown, hts, hr, hlk, hK, had, hSt⟩ := id C
  intro H locs ls hl hP hS
  unfold fX1_deliver_s76 at hf
  refine lv_aload_n hx hb dX1_deliver_76 rfl (lv_at hl 0 rfl) ?_
  refine lv_aload_n hx hb dX1_deliver_77 rfl (lv_at hl 1 rfl) ?_
  refine lv_iload hx hb dX1_deliver_78 (lv_at hl 6 rfl) ?_
  refine lv_iload hx hb dX1_deliver_80 (lv_at hl 7 rfl) ?_
  obtain ⟨q, hq, hf⟩ := bd hf
  refine gcV_v (k := 0) (o := b) (As := [.ref (ad 1), .int v6, .int v7]) (rest := []) hx hb hml hown hts hK hSt hP hS hl.1 (goodV wm_20_7 wm_20_8 wm_20_9 wm_3_6 wm_20_10) okX1_putOnWay (fl_0 ib) rfl rfl (Nat.le_of_ble_eq_true rfl) (Nat.le_of_ble_eq_true rfl) rfl rfl (Nat.le_of_ble_eq_true rfl) dX1_deliver_82 (kX1_putOnWay l D G ad had n b ib v6 v7 st q hq) (fun H locs hP hS => ?_)
  exact wX1_deliver_s85 C n K11 b v2 v4 v5 v6 v7 ib q.2 res hK11 hf H locs ls (lv_sub hl [0, 1, 2, 3, 4, 5, 6, 7] rfl) hP hS
def fX1_deliver_s64 (n : Nat) (K11 : Int32 → Int32 → Int32 → Int32 → St → Option (Int32 × St)) (b : Nat) (v2 : Int32) (v4 : Int32) (v5 : Int32) (v6 : Int32) (v7 : Int32) (st : St) : Option (Int32 × St) := if inb v6 8 = true then (if inb v6 8 = true then (fX1_deliver_s76 n K11 b v2 v4 v5 v6 v7 (setI st (b + 6) v6.toNatClampNeg ((st.1 (b + 6) v6.toNatClampNeg) - v7))) else none) else none
set_option maxHeartbeats 4000000 in
set_option maxRecDepth 100000 in
theorem wX1_deliver_s64 (C : Cx p s m args meth c cX1_deliver 8 wsL_law RX1 (some .int) D G ad) (n : Nat) (K11 : Int32 → Int32 → Int32 → Int32 → St → Option (Int32 × St)) (b : Nat) (v2 : Int32) (v4 : Int32) (v5 : Int32) (v6 : Int32) (v7 : Int32) (ib : isFl b)  (st : St) (res : (Int32 × St)) (hK11 : ∀ (v2 : Int32) (v4 : Int32) (v5 : Int32) (v6 : Int32) (st : St), K11 v2 v4 v5 v6 st = some res → At p l e (rmK 1) s m args below meth c D G ad (MQI D G ad below args s res) 8 st [(0, .ref (ad b)), (1, .ref (ad 1)), (2, .int v2), (3, .ref (ad 18)), (4, .int v4), (5, .int v5), (6, .int v6)] 11 []) (hf : fX1_deliver_s64 n K11 b v2 v4 v5 v6 v7 st = some res) : At p l e (rmK 1) s m args below meth c D G ad (MQI D G ad below args s res) 8 st [(0, .ref (ad b)), (1, .ref (ad 1)), (2, .int v2), (3, .ref (ad 18)), (4, .int v4), (5, .int v5), (6, .int v6), (7, .int v7)] 64 [] := by
  obtain ⟨hx, hb, hml, hown, hts, hr, hlk, hK, had, hSt⟩ := id C
  intro H locs ls hl hP hS
  unfold fX1_deliver_s64 at hf
  refine lv_aload_n hx hb dX1_deliver_64 rfl (lv_at hl 0 rfl) ?_
  refine g_getR hx hb hts inlX1 hown hK hP b (fl_0 ib) rfl 5 (by decide) (hts _ wm_6_17) rfl dX1_deliver_65 ?_
  refine lv_iload hx hb dX1_deliver_68 (lv_at hl 6 rfl) ?_
  refine lv_dup2_11 hx hb dX1_deliver_70 rfl rfl ?_
  obtain ⟨g1, hf⟩ := gd hf
  refine g_iald hx hb hK hP (b + 6) (fl_6 ib) g1 dX1_deliver_71 ?_
  refine lv_iload hx hb dX1_deliver_72 (lv_at hl 7 rfl) ?_
  refine lv_isub hx hb dX1_deliver_74 ?_
  obtain ⟨g2, hf⟩ := gd hf
  refine g_iast hx hb hK had hP hS (b + 6) (fl_6 ib) g2 dX1_deliver_75 (fun H locs hP hS => ?_)
  exact wX1_deliver_s76 C n K11 b v2 v4 v5 v6 v7 ib (setI st (b + 6) v6.toNatClampNeg ((st.1 (b + 6) v6.toNatClampNeg) - v7)) res hK11 hf H locs ls (lv_sub hl [0, 1, 2, 3, 4, 5, 6, 7] rfl) hP hS
def fX1_deliver_s40 (n : Nat) (K11 : Int32 → Int32 → Int32 → Int32 → St → Option (Int32 × St)) (b : Nat) (v2 : Int32) (v4 : Int32) (v5 : Int32) (v6 : Int32) (st : St) : Option (Int32 × St) := if inb v5 8 = true then (if inb v6 8 = true then (if inb v6 8 = true then (fX1_deliver_s64 n K11 b v2 v4 (v5 + 1) v6 (st.1 20 v5.toNatClampNeg) (setI st (b + 5) v6.toNatClampNeg ((st.1 (b + 5) v6.toNatClampNeg) - (st.1 20 v5.toNatClampNeg)))) else none) else none) else none
set_option maxHeartbeats 4000000 in
set_option maxRecDepth 100000 in
theorem wX1_deliver_s40 (C : Cx p s m args meth c cX1_deliver 8 wsL_law RX1 (some .int) D G ad) (n : Nat) (K11 : Int32 → Int32 → Int32 → Int32 → St → Option (Int32 × St)) (b : Nat) (v2 : Int32) (v4 : Int32) (v5 : Int32) (v6 : Int32) (ib : isFl b)  (st : St) (res : (Int32 × St)) (hK11 : ∀ (v2 : Int32) (v4 : Int32) (v5 : Int32) (v6 : Int32) (st : St), K11 v2 v4 v5 v6 st = some res → At p l e (rmK 1) s m args below meth c D G ad (MQI D G ad below args s res) 8 st [(0, .ref (ad b)), (1, .ref (ad 1)), (2, .int v2), (3, .ref (ad 18)), (4, .int v4), (5, .int v5), (6, .int v6)] 11 []) (hf : fX1_deliver_s40 n K11 b v2 v4 v5 v6 st = some res) : At p l e (rmK 1) s m args below meth c D G ad (MQI D G ad below args s res) 8 st [(0, .ref (ad b)), (1, .ref (ad 1)), (2, .int v2), (3, .ref (ad 18)), (4, .int v4), (5, .int v5), (6, .int v6)] 40 [] := by
  obtain ⟨hx, hb, hml, hown, hts, hr, hlk, hK, had, hSt⟩ := id C
  intro H locs ls hl hP hS
  unfold fX1_deliver_s40 at hf
  refine lv_aload_n hx hb dX1_deliver_40 rfl (lv_at hl 3 rfl) ?_
  refine g_getR hx hb hts inlX8 hown hK hP 18 ct_18 rfl 1 (by decide) (hts _ wm_20_6) rfl dX1_deliver_41 ?_
  refine lv_iload hx hb dX1_deliver_44 (lv_at hl 5 rfl) ?_
  obtain ⟨g1, hf⟩ := gd hf
  refine g_iald hx hb hK hP 20 ct_20 g1 dX1_deliver_46 ?_
  refine lv_istore (lv' := [(7, .int (st.1 20 v5.toNatClampNeg)), (0, .ref (ad b)), (1, .ref (ad 1)), (2, .int v2), (3, .ref (ad 18)), (4, .int v4), (5, .int v5), (6, .int v6)]) hx hb dX1_deliver_47 hl (by decide) rfl (fun ls hl => ?_)
  refine lv_iinc (v := v5 + 1) (lv' := [(5, .int (v5 + 1)), (7, .int (st.1 20 v5.toNatClampNeg)), (0, .ref (ad b)), (1, .ref (ad 1)), (2, .int v2), (3, .ref (ad 18)), (4, .int v4), (6, .int v6)]) hx hb dX1_deliver_49 hl (k := 6) rfl rfl (by decide) rfl (fun ls hl => ?_)
  refine lv_aload_n hx hb dX1_deliver_52 rfl (lv_at hl 2 rfl) ?_
  refine g_getR hx hb hts inlX1 hown hK hP b (fl_0 ib) rfl 4 (by decide) (hts _ wm_6_16) rfl dX1_deliver_53 ?_
  refine lv_iload hx hb dX1_deliver_56 (lv_at hl 7 rfl) ?_
  refine lv_dup2_11 hx hb dX1_deliver_58 rfl rfl ?_
  obtain ⟨g2, hf⟩ := gd hf
  refine g_iald hx hb hK hP (b + 5) (fl_5 ib) g2 dX1_deliver_59 ?_
  refine lv_iload hx hb dX1_deliver_60 (lv_at hl 1 rfl) ?_
  refine lv_isub hx hb dX1_deliver_62 ?_
  obtain ⟨g3, hf⟩ := gd hf
  refine g_iast hx hb hK had hP hS (b + 5) (fl_5 ib) g3 dX1_deliver_63 (fun H locs hP hS => ?_)
  exact wX1_deliver_s64 C n K11 b v2 v4 (v5 + 1) v6 (st.1 20 v5.toNatClampNeg) ib (setI st (b + 5) v6.toNatClampNeg ((st.1 (b + 5) v6.toNatClampNeg) - (st.1 20 v5.toNatClampNeg))) res hK11 hf H locs ls (lv_sub hl [2, 3, 4, 5, 6, 0, 7, 1] rfl) hP hS
def fX1_deliver_s31 (n : Nat) (K11 : Int32 → Int32 → Int32 → Int32 → St → Option (Int32 × St)) (b : Nat) (v2 : Int32) (v4 : Int32) (v5 : Int32) (v6 : Int32) (st : St) : Option (Int32 × St) := if (st.1 18 2) ≤ v5 then fX1_deliver_s92 n K11 b v2 v4 v5 v6 st else fX1_deliver_s40 n K11 b v2 v4 v5 v6 st
set_option maxHeartbeats 4000000 in
set_option maxRecDepth 100000 in
theorem wX1_deliver_s31 (C : Cx p s m args meth c cX1_deliver 8 wsL_law RX1 (some .int) D G ad) (n : Nat) (K11 : Int32 → Int32 → Int32 → Int32 → St → Option (Int32 × St)) (b : Nat) (v2 : Int32) (v4 : Int32) (v5 : Int32) (v6 : Int32) (ib : isFl b)  (st : St) (res : (Int32 × St)) (hK11 : ∀ (v2 : Int32) (v4 : Int32) (v5 : Int32) (v6 : Int32) (st : St), K11 v2 v4 v5 v6 st = some res → At p l e (rmK 1) s m args below meth c D G ad (MQI D G ad below args s res) 8 st [(0, .ref (ad b)), (1, .ref (ad 1)), (2, .int v2), (3, .ref (ad 18)), (4, .int v4), (5, .int v5), (6, .int v6)] 11 []) (hf : fX1_deliver_s31 n K11 b v2 v4 v5 v6 st = some res) : At p l e (rmK 1) s m args below meth c D G ad (MQI D G ad below args s res) 8 st [(0, .ref (ad b)), (1, .ref (ad 1)), (2, .int v2), (3, .ref (ad 18)), (4, .int v4), (5, .int v5), (6, .int v6)] 31 [] := by
  obtain ⟨hx, hb, hml, hown, hts, hr, hlk, hK, had, hSt⟩ := id C
  intro H locs ls hl hP hS
  unfold fX1_deliver_s31 at hf
  refine lv_iload hx hb dX1_deliver_31 (lv_at hl 5 rfl) ?_
  refine lv_aload_n hx hb dX1_deliver_33 rfl (lv_at hl 3 rfl) ?_
  refine g_getI hx hb hts inlX8 hown hK hP 18 ct_18 rfl 2 (by decide) (hts _ wm_18_22) rfl dX1_deliver_34 ?_
  refine lv_icmp_ge (tgt := 92) hx hb dX1_deliver_37 (by decide) (fun q => ?_) (fun q => ?_)
  · exact wX1_deliver_s92 C n K11 b v2 v4 v5 v6 ib st res hK11 (it hf q) H locs ls (lv_sub hl [0, 1, 2, 3, 4, 5, 6] rfl) hP hS
  · exact wX1_deliver_s40 C n K11 b v2 v4 v5 v6 ib st res hK11 (ie hf q) H locs ls (lv_sub hl [0, 1, 2, 3, 4, 5, 6] rfl) hP hS
def fX1_deliver_s20 (n : Nat) (K11 : Int32 → Int32 → Int32 → Int32 → St → Option (Int32 × St)) (b : Nat) (v2 : Int32) (v4 : Int32) (v5 : Int32) (v6 : Int32) (st : St) : Option (Int32 × St) := if inb v6 8 = true then (if (st.1 3 v6.toNatClampNeg) = v2 then fX1_deliver_s31 n K11 b v2 v4 v5 v6 st else fX1_deliver_s92 n K11 b v2 v4 v5 v6 st) else none
set_option maxHeartbeats 4000000 in
set_option maxRecDepth 100000 in
theorem wX1_deliver_s20 (C : Cx p s m args meth c cX1_deliver 8 wsL_law RX1 (some .int) D G ad) (n : Nat) (K11 : Int32 → Int32 → Int32 → Int32 → St → Option (Int32 × St)) (b : Nat) (v2 : Int32) (v4 : Int32) (v5 : Int32) (v6 : Int32) (ib : isFl b)  (st : St) (res : (Int32 × St)) (hK11 : ∀ (v2 : Int32) (v4 : Int32) (v5 : Int32) (v6 : Int32) (st : St), K11 v2 v4 v5 v6 st = some res → At p l e (rmK 1) s m args below meth c D G ad (MQI D G ad below args s res) 8 st [(0, .ref (ad b)), (1, .ref (ad 1)), (2, .int v2), (3, .ref (ad 18)), (4, .int v4), (5, .int v5), (6, .int v6)] 11 []) (hf : fX1_deliver_s20 n K11 b v2 v4 v5 v6 st = some res) : At p l e (rmK 1) s m args below meth c D G ad (MQI D G ad below args s res) 8 st [(0, .ref (ad b)), (1, .ref (ad 1)), (2, .int v2), (3, .ref (ad 18)), (4, .int v4), (5, .int v5), (6, .int v6)] 20 [] := by
  obtain ⟨hx, hb, hml, hown, hts, hr, hlk, hK, had, hSt⟩ := id C
  intro H locs ls hl hP hS
  unfold fX1_deliver_s20 at hf
  refine lv_aload_n hx hb dX1_deliver_20 rfl (lv_at hl 1 rfl) ?_
  refine g_getR hx hb hts inlX6 hown hK hP 1 ct_1 rfl 1 (by decide) (hts _ wm_18_10) rfl dX1_deliver_21 ?_
  refine lv_iload hx hb dX1_deliver_24 (lv_at hl 6 rfl) ?_
  obtain ⟨g1, hf⟩ := gd hf
  refine g_iald hx hb hK hP 3 ct_3 g1 dX1_deliver_26 ?_
  refine lv_iload_n hx hb dX1_deliver_27 rfl (lv_at hl 2 rfl) ?_
  refine lv_icmp_ne (tgt := 92) hx hb dX1_deliver_28 (by decide) (fun q => ?_) (fun q => ?_)
  · exact wX1_deliver_s92 C n K11 b v2 v4 v5 v6 ib st res hK11 (ie hf q) H locs ls (lv_sub hl [0, 1, 2, 3, 4, 5, 6] rfl) hP hS
  · exact wX1_deliver_s31 C n K11 b v2 v4 v5 v6 ib st res hK11 (it hf q) H locs ls (lv_sub hl [0, 1, 2, 3, 4, 5, 6] rfl) hP hS
def fX1_deliver_s11 (n : Nat) (K11 : Int32 → Int32 → Int32 → Int32 → St → Option (Int32 × St)) (b : Nat) (v2 : Int32) (v4 : Int32) (v5 : Int32) (v6 : Int32) (st : St) : Option (Int32 × St) := if (st.1 1 9) ≤ v6 then fX1_deliver_s98 n b v4 st else fX1_deliver_s20 n K11 b v2 v4 v5 v6 st
set_option maxHeartbeats 4000000 in
set_option maxRecDepth 100000 in
theorem wX1_deliver_s11 (C : Cx p s m args meth c cX1_deliver 8 wsL_law RX1 (some .int) D G ad) (n : Nat) (K11 : Int32 → Int32 → Int32 → Int32 → St → Option (Int32 × St)) (b : Nat) (v2 : Int32) (v4 : Int32) (v5 : Int32) (v6 : Int32) (ib : isFl b)  (st : St) (res : (Int32 × St)) (hK11 : ∀ (v2 : Int32) (v4 : Int32) (v5 : Int32) (v6 : Int32) (st : St), K11 v2 v4 v5 v6 st = some res → At p l e (rmK 1) s m args below meth c D G ad (MQI D G ad below args s res) 8 st [(0, .ref (ad b)), (1, .ref (ad 1)), (2, .int v2), (3, .ref (ad 18)), (4, .int v4), (5, .int v5), (6, .int v6)] 11 []) (hf : fX1_deliver_s11 n K11 b v2 v4 v5 v6 st = some res) : At p l e (rmK 1) s m args below meth c D G ad (MQI D G ad below args s res) 8 st [(0, .ref (ad b)), (1, .ref (ad 1)), (2, .int v2), (3, .ref (ad 18)), (4, .int v4), (5, .int v5), (6, .int v6)] 11 [] := by
  obtain ⟨hx, hb, hml, hown, hts, hr, hlk, hK, had, hSt⟩ := id C
  intro H locs ls hl hP hS
  unfold fX1_deliver_s11 at hf
  refine lv_iload hx hb dX1_deliver_11 (lv_at hl 6 rfl) ?_
  refine lv_aload_n hx hb dX1_deliver_13 rfl (lv_at hl 1 rfl) ?_
  refine g_getI hx hb hts inlX6 hown hK hP 1 ct_1 rfl 9 (by decide) (hts _ wm_17_18) rfl dX1_deliver_14 ?_
  refine lv_icmp_ge (tgt := 98) hx hb dX1_deliver_17 (by decide) (fun q => ?_) (fun q => ?_)
  · exact wX1_deliver_s98 C n b v4 ib st res (it hf q) H locs ls (lv_sub hl [4] rfl) hP hS
  · exact wX1_deliver_s20 C n K11 b v2 v4 v5 v6 ib st res hK11 (ie hf q) H locs ls (lv_sub hl [0, 1, 2, 3, 4, 5, 6] rfl) hP hS
def fX1_deliver_L11 (n : Nat)  (b : Nat) : Nat → Int32 → Int32 → Int32 → Int32 → St → Option (Int32 × St)
  | 0, _, _, _, _, _ => none
  | k + 1, v2, v4, v5, v6, st => fX1_deliver_s11 n (fX1_deliver_L11 n b k) b v2 v4 v5 v6 st
theorem wX1_deliver_L11 (C : Cx p s m args meth c cX1_deliver 8 wsL_law RX1 (some .int) D G ad) (n : Nat)  (b : Nat) (ib : isFl b) (res : (Int32 × St))  : ∀ (k : Nat) (v2 : Int32) (v4 : Int32) (v5 : Int32) (v6 : Int32)  (st : St), fX1_deliver_L11 n b k v2 v4 v5 v6 st = some res → At p l e (rmK 1) s m args below meth c D G ad (MQI D G ad below args s res) 8 st [(0, .ref (ad b)), (1, .ref (ad 1)), (2, .int v2), (3, .ref (ad 18)), (4, .int v4), (5, .int v5), (6, .int v6)] 11 [] := by
  intro k
  induction k with
  | zero => intro v2 v4 v5 v6  st h; exact absurd h (by intro q; cases q)
  | succ k ih => intro v2 v4 v5 v6  st h; exact wX1_deliver_s11 C n (fX1_deliver_L11 n b k) b v2 v4 v5 v6 ib  st res ih h
def fX1_deliver_s0 (n : Nat)  (b : Nat) (v2 : Int32) (st : St) : Option (Int32 × St) := fX1_deliver_L11 n b n v2 0 0 (v2 + 1) st
set_option maxHeartbeats 4000000 in
set_option maxRecDepth 100000 in
theorem wX1_deliver_s0 (C : Cx p s m args meth c cX1_deliver 8 wsL_law RX1 (some .int) D G ad) (n : Nat)  (b : Nat) (v2 : Int32) (ib : isFl b)  (st : St) (res : (Int32 × St))  (hf : fX1_deliver_s0 n  b v2 st = some res) : At p l e (rmK 1) s m args below meth c D G ad (MQI D G ad below args s res) 8 st [(0, .ref (ad b)), (1, .ref (ad 1)), (2, .int v2), (3, .ref (ad 18))] 0 [] := by
  obtain ⟨hx, hb, hml, hown, hts, hr, hlk, hK, had, hSt⟩ := id C
  intro H locs ls hl hP hS
  unfold fX1_deliver_s0 at hf
  refine lv_iconst (v := 0) hx hb dX1_deliver_0 (by decide) ?_
  refine lv_istore (lv' := [(4, .int 0), (0, .ref (ad b)), (1, .ref (ad 1)), (2, .int v2), (3, .ref (ad 18))]) hx hb dX1_deliver_1 hl (by decide) rfl (fun ls hl => ?_)
  refine lv_iconst (v := 0) hx hb dX1_deliver_3 (by decide) ?_
  refine lv_istore (lv' := [(5, .int 0), (4, .int 0), (0, .ref (ad b)), (1, .ref (ad 1)), (2, .int v2), (3, .ref (ad 18))]) hx hb dX1_deliver_4 hl (by decide) rfl (fun ls hl => ?_)
  refine lv_iload_n hx hb dX1_deliver_6 rfl (lv_at hl 4 rfl) ?_
  refine lv_iconst (v := 1) hx hb dX1_deliver_7 (by decide) ?_
  refine lv_iadd hx hb dX1_deliver_8 ?_
  refine lv_istore (lv' := [(6, .int (v2 + 1)), (5, .int 0), (4, .int 0), (0, .ref (ad b)), (1, .ref (ad 1)), (2, .int v2), (3, .ref (ad 18))]) hx hb dX1_deliver_9 hl (by decide) rfl (fun ls hl => ?_)
  exact wX1_deliver_L11 C n b ib res n v2 0 0 (v2 + 1) st hf H locs ls (lv_sub hl [3, 4, 5, 6, 2, 1, 0] rfl) hP hS
def fX1_deliver (n : Nat) (b : Nat) (a2 : Int32) (st : St) : Option (Int32 × St) := fX1_deliver_s0 n b a2 st
theorem okX1_deliver : okY yX1_deliver RX1 3 := by unfold okY; decide +kernel
end
set_option maxRecDepth 100000 in
theorem kX1_deliver (l : Launch) (D : va_G) (G : G3) (ad : Nat → Nat) (had : Adr ad) (n : Nat) (b : Nat) (ib : isFl b) (a2 : Int32) (st : St) (res : (Int32 × St)) (hf : fX1_deliver n b a2 st = some res) {sz : Nat} : CtI l yX1_deliver (wsU yX1_deliver cX1_deliver 8 (some .int)) (rmK 1) D G ad sz [.ref (ad b), .ref (ad 1), .int a2, .ref (ad 18)] st res := by
  refine Met.ofW (cc := cX1_deliver) (maxL := 8) (ret := (some .int)) (by decide) rfl ?_
  intro p e s m args below meth c s₁ B hml hv
  obtain ⟨rfl, hsz, hP, hK, hSt⟩ := hv
  have hts := atoms_spec (ws := wsU yX1_deliver cX1_deliver 8 (some .int)) B.pre
  have C : Cx p s m _ meth c cX1_deliver 8 wsL_law RX1 (some .int) D G ad := ⟨B.exec, B.bytes, hml, findClass_of_methodNamed B.named, fun w h => hts w (List.mem_cons_of_mem _ h), B.returns, B.notSynchronized, hK, had, hSt⟩
  subst hsz
  have hl := lv_entry ([.ref (ad b), .ref (ad 1), .int a2, .ref (ad 18)]) (n := 8) (Nat.le_of_ble_eq_true rfl)
  rw [lg_entry_eq]
  generalize (lg_sl ([.ref (ad b), .ref (ad 1), .int a2, .ref (ad 18)]) ++ List.replicate (8 - (lg_sl ([.ref (ad b), .ref (ad 1), .int a2, .ref (ad 18)])).length) Slot.unset).toArray = ls at hl ⊢
  exact wX1_deliver_s0 C n b a2 ib  st res hf s.heap [] ls (lv_sub hl [0, 1, 2, 3] rfl) hP va_S.rf
section
variable {p : Program} {l : Launch} {e : Env} {s : State} {m : MethodId} {args : Array Value} {below : List Frame} {meth : Method} {c : Code} {D : va_G} {G : G3} {ad : Nat → Nat}
def fX1_send_s146 (n : Nat)  (b : Nat)  (st : St) : Option (Unit × St) := some ((), st)
set_option maxHeartbeats 4000000 in
set_option maxRecDepth 100000 in
theorem wX1_send_s146 (C : Cx p s m args meth c cX1_send 6 wsL_law RX1 none D G ad) (n : Nat)  (b : Nat)  (ib : isFl b)  (st : St) (res : (Unit × St))  (hf : fX1_send_s146 n  b  st = some res) : At p l e (rmK 3) s m args below meth c D G ad (MQV D G ad below args s res) 6 st [] 146 [] := by
  obtain ⟨hx, hb, hml, hown, hts, hr, hlk, hK, had, hSt⟩ := id C
  intro H locs ls hl hP hS
  unfold fX1_send_s146 at hf
  exact g_vret hx hb hr hlk hP hS dX1_send_146 hf
def fX1_send_s135 (n : Nat)  (b : Nat) (v2 : Int32) (v4 : Int32) (st : St) : Option (Unit × St) := if inb v2 8 = true then (if inb v2 8 = true then (fX1_send_s146 n b (setI st (b + 7) v2.toNatClampNeg ((st.1 (b + 7) v2.toNatClampNeg) + v4))) else none) else none
set_option maxHeartbeats 4000000 in
set_option maxRecDepth 100000 in
theorem wX1_send_s135 (C : Cx p s m args meth c cX1_send 6 wsL_law RX1 none D G ad) (n : Nat)  (b : Nat) (v2 : Int32) (v4 : Int32) (ib : isFl b)  (st : St) (res : (Unit × St))  (hf : fX1_send_s135 n  b v2 v4 st = some res) : At p l e (rmK 3) s m args below meth c D G ad (MQV D G ad below args s res) 6 st [(0, .ref (ad b)), (2, .int v2), (4, .int v4)] 135 [] := by
  obtain ⟨hx, hb, hml, hown, hts, hr, hlk, hK, had, hSt⟩ := id C
  intro H locs ls hl hP hS
  unfold fX1_send_s135 at hf
  refine lv_aload_n hx hb dX1_send_135 rfl (lv_at hl 0 rfl) ?_
  refine g_getR hx hb hts inlX1 hown hK hP b (fl_0 ib) rfl 6 (by decide) (hts _ wm_6_18) rfl dX1_send_136 ?_
  refine lv_iload_n hx hb dX1_send_139 rfl (lv_at hl 1 rfl) ?_
  refine lv_dup2_11 hx hb dX1_send_140 rfl rfl ?_
  obtain ⟨g1, hf⟩ := gd hf
  refine g_iald hx hb hK hP (b + 7) (fl_7 ib) g1 dX1_send_141 ?_
  refine lv_iload hx hb dX1_send_142 (lv_at hl 2 rfl) ?_
  refine lv_iadd hx hb dX1_send_144 ?_
  obtain ⟨g2, hf⟩ := gd hf
  refine g_iast hx hb hK had hP hS (b + 7) (fl_7 ib) g2 dX1_send_145 (fun H locs hP hS => ?_)
  exact wX1_send_s146 C n b ib (setI st (b + 7) v2.toNatClampNeg ((st.1 (b + 7) v2.toNatClampNeg) + v4)) res hf H locs ls (lv_sub hl [] rfl) hP hS
def fX1_send_s124 (n : Nat)  (b : Nat) (v2 : Int32) (v4 : Int32) (st : St) : Option (Unit × St) := if inb v2 8 = true then (if inb v2 8 = true then (fX1_send_s135 n b v2 v4 (setI st (b + 4) v2.toNatClampNeg ((st.1 (b + 4) v2.toNatClampNeg) - v4))) else none) else none
set_option maxHeartbeats 4000000 in
set_option maxRecDepth 100000 in
theorem wX1_send_s124 (C : Cx p s m args meth c cX1_send 6 wsL_law RX1 none D G ad) (n : Nat)  (b : Nat) (v2 : Int32) (v4 : Int32) (ib : isFl b)  (st : St) (res : (Unit × St))  (hf : fX1_send_s124 n  b v2 v4 st = some res) : At p l e (rmK 3) s m args below meth c D G ad (MQV D G ad below args s res) 6 st [(0, .ref (ad b)), (2, .int v2), (4, .int v4)] 124 [] := by
  obtain ⟨hx, hb, hml, hown, hts, hr, hlk, hK, had, hSt⟩ := id C
  intro H locs ls hl hP hS
  unfold fX1_send_s124 at hf
  refine lv_aload_n hx hb dX1_send_124 rfl (lv_at hl 0 rfl) ?_
  refine g_getR hx hb hts inlX1 hown hK hP b (fl_0 ib) rfl 3 (by decide) (hts _ wm_6_15) rfl dX1_send_125 ?_
  refine lv_iload_n hx hb dX1_send_128 rfl (lv_at hl 1 rfl) ?_
  refine lv_dup2_11 hx hb dX1_send_129 rfl rfl ?_
  obtain ⟨g1, hf⟩ := gd hf
  refine g_iald hx hb hK hP (b + 4) (fl_4 ib) g1 dX1_send_130 ?_
  refine lv_iload hx hb dX1_send_131 (lv_at hl 2 rfl) ?_
  refine lv_isub hx hb dX1_send_133 ?_
  obtain ⟨g2, hf⟩ := gd hf
  refine g_iast hx hb hK had hP hS (b + 4) (fl_4 ib) g2 dX1_send_134 (fun H locs hP hS => ?_)
  exact wX1_send_s135 C n b v2 v4 ib (setI st (b + 4) v2.toNatClampNeg ((st.1 (b + 4) v2.toNatClampNeg) - v4)) res hf H locs ls (lv_sub hl [0, 1, 2] rfl) hP hS
def fX1_send_s113 (n : Nat)  (b : Nat) (v2 : Int32) (v4 : Int32) (st : St) : Option (Unit × St) := if inb v2 8 = true then (if inb v2 8 = true then (fX1_send_s124 n b v2 v4 (setI st (b + 1) v2.toNatClampNeg ((st.1 (b + 1) v2.toNatClampNeg) - v4))) else none) else none
set_option maxHeartbeats 4000000 in
set_option maxRecDepth 100000 in
theorem wX1_send_s113 (C : Cx p s m args meth c cX1_send 6 wsL_law RX1 none D G ad) (n : Nat)  (b : Nat) (v2 : Int32) (v4 : Int32) (ib : isFl b)  (st : St) (res : (Unit × St))  (hf : fX1_send_s113 n  b v2 v4 st = some res) : At p l e (rmK 3) s m args below meth c D G ad (MQV D G ad below args s res) 6 st [(0, .ref (ad b)), (2, .int v2), (4, .int v4)] 113 [] := by
  obtain ⟨hx, hb, hml, hown, hts, hr, hlk, hK, had, hSt⟩ := id C
  intro H locs ls hl hP hS
  unfold fX1_send_s113 at hf
  refine lv_aload_n hx hb dX1_send_113 rfl (lv_at hl 0 rfl) ?_
  refine g_getR hx hb hts inlX1 hown hK hP b (fl_0 ib) rfl 0 (by decide) (hts _ wm_6_12) rfl dX1_send_114 ?_
  refine lv_iload_n hx hb dX1_send_117 rfl (lv_at hl 1 rfl) ?_
  refine lv_dup2_11 hx hb dX1_send_118 rfl rfl ?_
  obtain ⟨g1, hf⟩ := gd hf
  refine g_iald hx hb hK hP (b + 1) (fl_1 ib) g1 dX1_send_119 ?_
  refine lv_iload hx hb dX1_send_120 (lv_at hl 2 rfl) ?_
  refine lv_isub hx hb dX1_send_122 ?_
  obtain ⟨g2, hf⟩ := gd hf
  refine g_iast hx hb hK had hP hS (b + 1) (fl_1 ib) g2 dX1_send_123 (fun H locs hP hS => ?_)
  exact wX1_send_s124 C n b v2 v4 ib (setI st (b + 1) v2.toNatClampNeg ((st.1 (b + 1) v2.toNatClampNeg) - v4)) res hf H locs ls (lv_sub hl [0, 1, 2] rfl) hP hS
def fX1_send_s111 (n : Nat)  (b : Nat) (v2 : Int32) (k0 : Int32) (st : St) : Option (Unit × St) := fX1_send_s113 n b v2 k0 st
set_option maxHeartbeats 4000000 in
set_option maxRecDepth 100000 in
theorem wX1_send_s111 (C : Cx p s m args meth c cX1_send 6 wsL_law RX1 none D G ad) (n : Nat)  (b : Nat) (v2 : Int32) (k0 : Int32) (ib : isFl b)  (st : St) (res : (Unit × St))  (hf : fX1_send_s111 n  b v2 k0 st = some res) : At p l e (rmK 3) s m args below meth c D G ad (MQV D G ad below args s res) 6 st [(0, .ref (ad b)), (2, .int v2)] 111 [.int k0] := by
  obtain ⟨hx, hb, hml, hown, hts, hr, hlk, hK, had, hSt⟩ := id C
  intro H locs ls hl hP hS
  unfold fX1_send_s111 at hf
  refine lv_istore (lv' := [(4, .int k0), (0, .ref (ad b)), (2, .int v2)]) hx hb dX1_send_111 hl (by decide) rfl (fun ls hl => ?_)
  exact wX1_send_s113 C n b v2 k0 ib st res hf H locs ls (lv_sub hl [1, 2, 0] rfl) hP hS
def fX1_send_s104 (n : Nat)  (b : Nat) (v2 : Int32) (st : St) : Option (Unit × St) := (fX1_deliver n b v2 st).bind (fun q => fX1_send_s111 n b v2 q.1 q.2)
set_option maxHeartbeats 4000000 in
set_option maxRecDepth 100000 in
theorem wX1_send_s104 (C : Cx p s m args meth c cX1_send 6 wsL_law RX1 none D G ad) (n : Nat)  (b : Nat) (v2 : Int32) (ib : isFl b)  (st : St) (res : (Unit × St))  (hf : fX1_send_s104 n  b v2 st = some res) : At p l e (rmK 3) s m args below meth c D G ad (MQV D G ad below args s res) 6 st [(0, .ref (ad b)), (1, .ref (ad 1)), (2, .int v2), (3, .ref (ad 18))] 104 [] := by
  obtain ⟨hx, hb, hml, hown, hts, hr, hlk, hK, had, hSt⟩ := id C
  intro H locs ls hl hP hS
  unfold fX1_send_s104 at hf
  refine lv_aload_n hx hb dX1_send_104 rfl (lv_at hl 0 rfl) ?_
  refine lv_aload_n hx hb dX1_send_105 rfl (lv_at hl 1 rfl) ?_
  refine lv_iload_n hx hb dX1_send_106 rfl (lv_at hl 2 rfl) ?_
  refine lv_aload_n hx hb dX1_send_107 rfl (lv_at hl 3 rfl) ?_
  obtain ⟨q, hq, hf⟩ := bd hf
  refine gcV_i (k := 1) (o := b) (As := [.ref (ad 1), .int v2, .ref (ad 18)]) (rest := []) hx hb hml hown hts hK hSt hP hS hl.1 (goodV wm_20_2 wm_20_3 wm_20_4 wm_3_6 wm_20_5) okX1_deliver (fl_0 ib) rfl rfl (Nat.le_of_ble_eq_true rfl) (Nat.le_of_ble_eq_true rfl) rfl rfl (Nat.le_of_ble_eq_true rfl) dX1_send_108 (kX1_deliver l D G ad had n b ib v2 st q hq) (fun H locs hP hS => ?_)
  exact wX1_send_s111 C n b v2 q.1 ib q.2 res hf H locs ls (lv_sub hl [0, 2] rfl) hP hS
def fX1_send_s90 (n : Nat)  (b : Nat) (v2 : Int32) (st : St) : Option (Unit × St) := if inb v2 8 = true then ((fX8_split n 18 (st.1 1 11) (st.1 (b + 1) v2.toNatClampNeg) st).bind (fun q => fX1_send_s104 n b v2 q.2)) else none
set_option maxHeartbeats 4000000 in
set_option maxRecDepth 100000 in
theorem wX1_send_s90 (C : Cx p s m args meth c cX1_send 6 wsL_law RX1 none D G ad) (n : Nat)  (b : Nat) (v2 : Int32) (ib : isFl b)  (st : St) (res : (Unit × St))  (hf : fX1_send_s90 n  b v2 st = some res) : At p l e (rmK 3) s m args below meth c D G ad (MQV D G ad below args s res) 6 st [(0, .ref (ad b)), (1, .ref (ad 1)), (2, .int v2), (3, .ref (ad 18))] 90 [] := by
  obtain ⟨hx, hb, hml, hown, hts, hr, hlk, hK, had, hSt⟩ := id C
  intro H locs ls hl hP hS
  unfold fX1_send_s90 at hf
  refine lv_aload_n hx hb dX1_send_90 rfl (lv_at hl 3 rfl) ?_
  refine lv_aload_n hx hb dX1_send_91 rfl (lv_at hl 1 rfl) ?_
  refine g_getI hx hb hts inlX6 hown hK hP 1 ct_1 rfl 11 (by decide) (hts _ wm_18_23) rfl dX1_send_92 ?_
  refine lv_aload_n hx hb dX1_send_95 rfl (lv_at hl 0 rfl) ?_
  refine g_getR hx hb hts inlX1 hown hK hP b (fl_0 ib) rfl 0 (by decide) (hts _ wm_6_12) rfl dX1_send_96 ?_
  refine lv_iload_n hx hb dX1_send_99 rfl (lv_at hl 2 rfl) ?_
  obtain ⟨g1, hf⟩ := gd hf
  refine g_iald hx hb hK hP (b + 1) (fl_1 ib) g1 dX1_send_100 ?_
  obtain ⟨q, hq, hf⟩ := bd hf
  refine gcV_v (k := 2) (o := 18) (As := [.int (st.1 1 11), .int (st.1 (b + 1) v2.toNatClampNeg)]) (rest := []) hx hb hml hown hts hK hSt hP hS hl.1 (goodV wm_19_5 wm_19_6 wm_19_7 wm_2_3 wm_19_8) okX8_split ct_18 rfl rfl (Nat.le_of_ble_eq_true rfl) (Nat.le_of_ble_eq_true rfl) rfl rfl (Nat.le_of_ble_eq_true rfl) dX1_send_101 (kX8_split l D G ad had n 18 isSh_lit_18 (st.1 1 11) (st.1 (b + 1) v2.toNatClampNeg) st q hq) (fun H locs hP hS => ?_)
  exact wX1_send_s104 C n b v2 ib q.2 res hf H locs ls (lv_sub hl [0, 1, 2, 3] rfl) hP hS
def fX1_send_s84 (n : Nat) (K53 : Int32 → Int32 → St → Option (Unit × St)) (b : Nat) (v2 : Int32) (v5 : Int32) (st : St) : Option (Unit × St) := K53 v2 (v5 + 1) st
set_option maxHeartbeats 4000000 in
set_option maxRecDepth 100000 in
theorem wX1_send_s84 (C : Cx p s m args meth c cX1_send 6 wsL_law RX1 none D G ad) (n : Nat) (K53 : Int32 → Int32 → St → Option (Unit × St)) (b : Nat) (v2 : Int32) (v5 : Int32) (ib : isFl b)  (st : St) (res : (Unit × St)) (hK53 : ∀ (v2 : Int32) (v5 : Int32) (st : St), K53 v2 v5 st = some res → At p l e (rmK 3) s m args below meth c D G ad (MQV D G ad below args s res) 6 st [(0, .ref (ad b)), (1, .ref (ad 1)), (2, .int v2), (3, .ref (ad 18)), (5, .int v5)] 53 []) (hf : fX1_send_s84 n K53 b v2 v5 st = some res) : At p l e (rmK 3) s m args below meth c D G ad (MQV D G ad below args s res) 6 st [(0, .ref (ad b)), (1, .ref (ad 1)), (2, .int v2), (3, .ref (ad 18)), (5, .int v5)] 84 [] := by
  obtain ⟨hx, hb, hml, hown, hts, hr, hlk, hK, had, hSt⟩ := id C
  intro H locs ls hl hP hS
  unfold fX1_send_s84 at hf
  refine lv_iinc (v := v5 + 1) (lv' := [(5, .int (v5 + 1)), (0, .ref (ad b)), (1, .ref (ad 1)), (2, .int v2), (3, .ref (ad 18))]) hx hb dX1_send_84 hl (k := 4) rfl rfl (by decide) rfl (fun ls hl => ?_)
  refine lv_goto (tgt := 53) hx hb dX1_send_87 (by decide) ?_
  exact hK53 v2 (v5 + 1)  st hf H locs ls (lv_sub hl [1, 2, 3, 4, 0] rfl) hP hS
def fX1_send_s73 (n : Nat) (K53 : Int32 → Int32 → St → Option (Unit × St)) (b : Nat) (v2 : Int32) (v5 : Int32) (st : St) : Option (Unit × St) := if inb v5 8 = true then ((fX8_append n 18 (st.1 (b + 5) v5.toNatClampNeg) st).bind (fun q => fX1_send_s84 n K53 b v2 v5 q.2)) else none
set_option maxHeartbeats 4000000 in
set_option maxRecDepth 100000 in
theorem wX1_send_s73 (C : Cx p s m args meth c cX1_send 6 wsL_law RX1 none D G ad) (n : Nat) (K53 : Int32 → Int32 → St → Option (Unit × St)) (b : Nat) (v2 : Int32) (v5 : Int32) (ib : isFl b)  (st : St) (res : (Unit × St)) (hK53 : ∀ (v2 : Int32) (v5 : Int32) (st : St), K53 v2 v5 st = some res → At p l e (rmK 3) s m args below meth c D G ad (MQV D G ad below args s res) 6 st [(0, .ref (ad b)), (1, .ref (ad 1)), (2, .int v2), (3, .ref (ad 18)), (5, .int v5)] 53 []) (hf : fX1_send_s73 n K53 b v2 v5 st = some res) : At p l e (rmK 3) s m args below meth c D G ad (MQV D G ad below args s res) 6 st [(0, .ref (ad b)), (1, .ref (ad 1)), (2, .int v2), (3, .ref (ad 18)), (5, .int v5)] 73 [] := by
  obtain ⟨hx, hb, hml, hown, hts, hr, hlk, hK, had, hSt⟩ := id C
  intro H locs ls hl hP hS
  unfold fX1_send_s73 at hf
  refine lv_aload_n hx hb dX1_send_73 rfl (lv_at hl 3 rfl) ?_
  refine lv_aload_n hx hb dX1_send_74 rfl (lv_at hl 0 rfl) ?_
  refine g_getR hx hb hts inlX1 hown hK hP b (fl_0 ib) rfl 4 (by decide) (hts _ wm_6_16) rfl dX1_send_75 ?_
  refine lv_iload hx hb dX1_send_78 (lv_at hl 4 rfl) ?_
  obtain ⟨g1, hf⟩ := gd hf
  refine g_iald hx hb hK hP (b + 5) (fl_5 ib) g1 dX1_send_80 ?_
  obtain ⟨q, hq, hf⟩ := bd hf
  refine gcV_v (k := 0) (o := 18) (As := [.int (st.1 (b + 5) v5.toNatClampNeg)]) (rest := []) hx hb hml hown hts hK hSt hP hS hl.1 (goodV wm_19_0 wm_19_1 wm_19_2 wm_2_3 wm_19_3) okX8_append ct_18 rfl rfl (Nat.le_of_ble_eq_true rfl) (Nat.le_of_ble_eq_true rfl) rfl rfl (Nat.le_of_ble_eq_true rfl) dX1_send_81 (kX8_append l D G ad had n 18 isSh_lit_18 (st.1 (b + 5) v5.toNatClampNeg) st q hq) (fun H locs hP hS => ?_)
  exact wX1_send_s84 C n K53 b v2 v5 ib q.2 res hK53 hf H locs ls (lv_sub hl [0, 1, 2, 3, 4] rfl) hP hS
def fX1_send_s62 (n : Nat) (K53 : Int32 → Int32 → St → Option (Unit × St)) (b : Nat) (v2 : Int32) (v5 : Int32) (st : St) : Option (Unit × St) := if inb v5 8 = true then (if (st.1 3 v5.toNatClampNeg) = v2 then fX1_send_s73 n K53 b v2 v5 st else fX1_send_s84 n K53 b v2 v5 st) else none
set_option maxHeartbeats 4000000 in
set_option maxRecDepth 100000 in
theorem wX1_send_s62 (C : Cx p s m args meth c cX1_send 6 wsL_law RX1 none D G ad) (n : Nat) (K53 : Int32 → Int32 → St → Option (Unit × St)) (b : Nat) (v2 : Int32) (v5 : Int32) (ib : isFl b)  (st : St) (res : (Unit × St)) (hK53 : ∀ (v2 : Int32) (v5 : Int32) (st : St), K53 v2 v5 st = some res → At p l e (rmK 3) s m args below meth c D G ad (MQV D G ad below args s res) 6 st [(0, .ref (ad b)), (1, .ref (ad 1)), (2, .int v2), (3, .ref (ad 18)), (5, .int v5)] 53 []) (hf : fX1_send_s62 n K53 b v2 v5 st = some res) : At p l e (rmK 3) s m args below meth c D G ad (MQV D G ad below args s res) 6 st [(0, .ref (ad b)), (1, .ref (ad 1)), (2, .int v2), (3, .ref (ad 18)), (5, .int v5)] 62 [] := by
  obtain ⟨hx, hb, hml, hown, hts, hr, hlk, hK, had, hSt⟩ := id C
  intro H locs ls hl hP hS
  unfold fX1_send_s62 at hf
  refine lv_aload_n hx hb dX1_send_62 rfl (lv_at hl 1 rfl) ?_
  refine g_getR hx hb hts inlX6 hown hK hP 1 ct_1 rfl 1 (by decide) (hts _ wm_18_10) rfl dX1_send_63 ?_
  refine lv_iload hx hb dX1_send_66 (lv_at hl 4 rfl) ?_
  obtain ⟨g1, hf⟩ := gd hf
  refine g_iald hx hb hK hP 3 ct_3 g1 dX1_send_68 ?_
  refine lv_iload_n hx hb dX1_send_69 rfl (lv_at hl 2 rfl) ?_
  refine lv_icmp_ne (tgt := 84) hx hb dX1_send_70 (by decide) (fun q => ?_) (fun q => ?_)
  · exact wX1_send_s84 C n K53 b v2 v5 ib st res hK53 (ie hf q) H locs ls (lv_sub hl [0, 1, 2, 3, 4] rfl) hP hS
  · exact wX1_send_s73 C n K53 b v2 v5 ib st res hK53 (it hf q) H locs ls (lv_sub hl [0, 1, 2, 3, 4] rfl) hP hS
def fX1_send_s53 (n : Nat) (K53 : Int32 → Int32 → St → Option (Unit × St)) (b : Nat) (v2 : Int32) (v5 : Int32) (st : St) : Option (Unit × St) := if (st.1 1 9) ≤ v5 then fX1_send_s90 n b v2 st else fX1_send_s62 n K53 b v2 v5 st
set_option maxHeartbeats 4000000 in
set_option maxRecDepth 100000 in
theorem wX1_send_s53 (C : Cx p s m args meth c cX1_send 6 wsL_law RX1 none D G ad) (n : Nat) (K53 : Int32 → Int32 → St → Option (Unit × St)) (b : Nat) (v2 : Int32) (v5 : Int32) (ib : isFl b)  (st : St) (res : (Unit × St)) (hK53 : ∀ (v2 : Int32) (v5 : Int32) (st : St), K53 v2 v5 st = some res → At p l e (rmK 3) s m args below meth c D G ad (MQV D G ad below args s res) 6 st [(0, .ref (ad b)), (1, .ref (ad 1)), (2, .int v2), (3, .ref (ad 18)), (5, .int v5)] 53 []) (hf : fX1_send_s53 n K53 b v2 v5 st = some res) : At p l e (rmK 3) s m args below meth c D G ad (MQV D G ad below args s res) 6 st [(0, .ref (ad b)), (1, .ref (ad 1)), (2, .int v2), (3, .ref (ad 18)), (5, .int v5)] 53 [] := by
  obtain ⟨hx, hb, hml, hown, hts, hr, hlk, hK, had, hSt⟩ := id C
  intro H locs ls hl hP hS
  unfold fX1_send_s53 at hf
  refine lv_iload hx hb dX1_send_53 (lv_at hl 4 rfl) ?_
  refine lv_aload_n hx hb dX1_send_55 rfl (lv_at hl 1 rfl) ?_
  refine g_getI hx hb hts inlX6 hown hK hP 1 ct_1 rfl 9 (by decide) (hts _ wm_17_18) rfl dX1_send_56 ?_
  refine lv_icmp_ge (tgt := 90) hx hb dX1_send_59 (by decide) (fun q => ?_) (fun q => ?_)
  · exact wX1_send_s90 C n b v2 ib st res (it hf q) H locs ls (lv_sub hl [0, 1, 2, 3] rfl) hP hS
  · exact wX1_send_s62 C n K53 b v2 v5 ib st res hK53 (ie hf q) H locs ls (lv_sub hl [0, 1, 2, 3, 4] rfl) hP hS
def fX1_send_L53 (n : Nat)  (b : Nat) : Nat → Int32 → Int32 → St → Option (Unit × St)
  | 0, _, _, _ => none
  | k + 1, v2, v5, st => fX1_send_s53 n (fX1_send_L53 n b k) b v2 v5 st
theorem wX1_send_L53 (C : Cx p s m args meth c cX1_send 6 wsL_law RX1 none D G ad) (n : Nat)  (b : Nat) (ib : isFl b) (res : (Unit × St))  : ∀ (k : Nat) (v2 : Int32) (v5 : Int32)  (st : St), fX1_send_L53 n b k v2 v5 st = some res → At p l e (rmK 3) s m args below meth c D G ad (MQV D G ad below args s res) 6 st [(0, .ref (ad b)), (1, .ref (ad 1)), (2, .int v2), (3, .ref (ad 18)), (5, .int v5)] 53 [] := by
  intro k
  induction k with
  | zero => intro v2 v5  st h; exact absurd h (by intro q; cases q)
  | succ k ih => intro v2 v5  st h; exact wX1_send_s53 C n (fX1_send_L53 n b k) b v2 v5 ib  st res ih h
def fX1_send_s48 (n : Nat)  (b : Nat) (v2 : Int32) (st : St) : Option (Unit × St) := fX1_send_L53 n b n v2 (v2 + 1) st
set_option maxHeartbeats 4000000 in
set_option maxRecDepth 100000 in
theorem wX1_send_s48 (C : Cx p s m args meth c cX1_send 6 wsL_law RX1 none D G ad) (n : Nat)  (b : Nat) (v2 : Int32) (ib : isFl b)  (st : St) (res : (Unit × St))  (hf : fX1_send_s48 n  b v2 st = some res) : At p l e (rmK 3) s m args below meth c D G ad (MQV D G ad below args s res) 6 st [(0, .ref (ad b)), (1, .ref (ad 1)), (2, .int v2), (3, .ref (ad 18))] 48 [] := by
  obtain ⟨hx, hb, hml, hown, hts, hr, hlk, hK, had, hSt⟩ := id C
  intro H locs ls hl hP hS
  unfold fX1_send_s48 at hf
  refine lv_iload_n hx hb dX1_send_48 rfl (lv_at hl 2 rfl) ?_
  refine lv_iconst (v := 1) hx hb dX1_send_49 (by decide) ?_
  refine lv_iadd hx hb dX1_send_50 ?_
  refine lv_istore (lv' := [(5, .int (v2 + 1)), (0, .ref (ad b)), (1, .ref (ad 1)), (2, .int v2), (3, .ref (ad 18))]) hx hb dX1_send_51 hl (by decide) rfl (fun ls hl => ?_)
  exact wX1_send_L53 C n b ib res n v2 (v2 + 1) st hf H locs ls (lv_sub hl [1, 2, 3, 4, 0] rfl) hP hS
def fX1_send_s43 (n : Nat)  (b : Nat) (v2 : Int32) (st : St) : Option (Unit × St) := fX1_send_s48 n b v2 (setI st 18 2 0)
set_option maxHeartbeats 4000000 in
set_option maxRecDepth 100000 in
theorem wX1_send_s43 (C : Cx p s m args meth c cX1_send 6 wsL_law RX1 none D G ad) (n : Nat)  (b : Nat) (v2 : Int32) (ib : isFl b)  (st : St) (res : (Unit × St))  (hf : fX1_send_s43 n  b v2 st = some res) : At p l e (rmK 3) s m args below meth c D G ad (MQV D G ad below args s res) 6 st [(0, .ref (ad b)), (1, .ref (ad 1)), (2, .int v2), (3, .ref (ad 18))] 43 [] := by
  obtain ⟨hx, hb, hml, hown, hts, hr, hlk, hK, had, hSt⟩ := id C
  intro H locs ls hl hP hS
  unfold fX1_send_s43 at hf
  refine lv_aload_n hx hb dX1_send_43 rfl (lv_at hl 3 rfl) ?_
  refine lv_iconst (v := 0) hx hb dX1_send_44 (by decide) ?_
  refine g_putI hx hb hts inlX8 tyX8_ok nmX8 hown hK had hP hS 18 ct_18 rfl 2 (by decide) (hts _ wm_18_22) rfl rfl rfl rfl rfl dX1_send_45 (fun H locs hP hS => ?_)
  exact wX1_send_s48 C n b v2 ib (setI st 18 2 0) res hf H locs ls (lv_sub hl [0, 1, 2, 3] rfl) hP hS
def fX1_send_s40 (n : Nat)  (b : Nat) (v2 : Int32) (v4 : Int32) (st : St) : Option (Unit × St) := fX1_send_s113 n b v2 v4 st
set_option maxHeartbeats 4000000 in
set_option maxRecDepth 100000 in
theorem wX1_send_s40 (C : Cx p s m args meth c cX1_send 6 wsL_law RX1 none D G ad) (n : Nat)  (b : Nat) (v2 : Int32) (v4 : Int32) (ib : isFl b)  (st : St) (res : (Unit × St))  (hf : fX1_send_s40 n  b v2 v4 st = some res) : At p l e (rmK 3) s m args below meth c D G ad (MQV D G ad below args s res) 6 st [(0, .ref (ad b)), (2, .int v2), (4, .int v4)] 40 [] := by
  obtain ⟨hx, hb, hml, hown, hts, hr, hlk, hK, had, hSt⟩ := id C
  intro H locs ls hl hP hS
  unfold fX1_send_s40 at hf
  refine lv_goto (tgt := 113) hx hb dX1_send_40 (by decide) ?_
  exact wX1_send_s113 C n b v2 v4 ib st res hf H locs ls (lv_sub hl [0, 1, 2] rfl) hP hS
def fX1_send_s11 (n : Nat)  (b : Nat) (v2 : Int32) (st : St) : Option (Unit × St) := if inb v2 8 = true then (if inb v2 8 = true then (fX1_send_s40 n b v2 (if (st.1 (b + 4) v2.toNatClampNeg) < (st.1 (b + 1) v2.toNatClampNeg) then (st.1 (b + 4) v2.toNatClampNeg) else (st.1 (b + 1) v2.toNatClampNeg)) (setJ st b 12 ((st.2 b 12) + ((if (st.1 (b + 4) v2.toNatClampNeg) < (st.1 (b + 1) v2.toNatClampNeg) then (st.1 (b + 4) v2.toNatClampNeg) else (st.1 (b + 1) v2.toNatClampNeg)).toInt64)))) else none) else none
set_option maxHeartbeats 4000000 in
set_option maxRecDepth 100000 in
theorem wX1_send_s11 (C : Cx p s m args meth c cX1_send 6 wsL_law RX1 none D G ad) (n : Nat)  (b : Nat) (v2 : Int32) (ib : isFl b)  (st : St) (res : (Unit × St))  (hf : fX1_send_s11 n  b v2 st = some res) : At p l e (rmK 3) s m args below meth c D G ad (MQV D G ad below args s res) 6 st [(0, .ref (ad b)), (2, .int v2)] 11 [] := by
  obtain ⟨hx, hb, hml, hown, hts, hr, hlk, hK, had, hSt⟩ := id C
  intro H locs ls hl hP hS
  unfold fX1_send_s11 at hf
  refine lv_aload_n hx hb dX1_send_11 rfl (lv_at hl 0 rfl) ?_
  refine g_getR hx hb hts inlX1 hown hK hP b (fl_0 ib) rfl 0 (by decide) (hts _ wm_6_12) rfl dX1_send_12 ?_
  refine lv_iload_n hx hb dX1_send_15 rfl (lv_at hl 1 rfl) ?_
  obtain ⟨g1, hf⟩ := gd hf
  refine g_iald hx hb hK hP (b + 1) (fl_1 ib) g1 dX1_send_16 ?_
  refine lv_aload_n hx hb dX1_send_17 rfl (lv_at hl 0 rfl) ?_
  refine g_getR hx hb hts inlX1 hown hK hP b (fl_0 ib) rfl 3 (by decide) (hts _ wm_6_15) rfl dX1_send_18 ?_
  refine lv_iload_n hx hb dX1_send_21 rfl (lv_at hl 1 rfl) ?_
  obtain ⟨g2, hf⟩ := gd hf
  refine g_iald hx hb hK hP (b + 4) (fl_4 ib) g2 dX1_send_22 ?_
  refine va_mmin hx hb (hml.trans hl.1.symm) hown (hts _ wm_18_18) (hts _ wm_18_19) (hts _ wm_18_20) (hts _ wm_18_21) (Nat.le_of_ble_eq_true rfl) (Nat.le_of_ble_eq_true rfl) (Nat.zero_le _) (Nat.zero_le _) dX1_send_23 ?_
  refine lv_istore (lv' := [(4, .int (if (st.1 (b + 4) v2.toNatClampNeg) < (st.1 (b + 1) v2.toNatClampNeg) then (st.1 (b + 4) v2.toNatClampNeg) else (st.1 (b + 1) v2.toNatClampNeg))), (0, .ref (ad b)), (2, .int v2)]) hx hb dX1_send_26 hl (by decide) rfl (fun ls hl => ?_)
  refine lv_aload_n hx hb dX1_send_28 rfl (lv_at hl 1 rfl) ?_
  refine lv_dup hx hb dX1_send_29 rfl ?_
  refine g_getJ hx hb hts inlX1 hown hK hP b (fl_0 ib) rfl 12 (by decide) (hts _ wm_17_17) rfl dX1_send_30 ?_
  refine lv_iload hx hb dX1_send_33 (lv_at hl 0 rfl) ?_
  refine lv_i2l hx hb dX1_send_35 rfl ?_
  refine lv_ladd hx hb dX1_send_36 ?_
  refine g_putJ hx hb hts inlX1 tyX1_ok nmX1 hown hK had hP hS b (fl_0 ib) rfl 12 (by decide) (hts _ wm_17_17) rfl rfl rfl dX1_send_37 (fun H locs hP hS => ?_)
  exact wX1_send_s40 C n b v2 (if (st.1 (b + 4) v2.toNatClampNeg) < (st.1 (b + 1) v2.toNatClampNeg) then (st.1 (b + 4) v2.toNatClampNeg) else (st.1 (b + 1) v2.toNatClampNeg)) ib (setJ st b 12 ((st.2 b 12) + ((if (st.1 (b + 4) v2.toNatClampNeg) < (st.1 (b + 1) v2.toNatClampNeg) then (st.1 (b + 4) v2.toNatClampNeg) else (st.1 (b + 1) v2.toNatClampNeg)).toInt64))) res hf H locs ls (lv_sub hl [1, 2, 0] rfl) hP hS
def fX1_send_s8 (n : Nat)  (b : Nat) (v2 : Int32) (k0 : Int32) (st : St) : Option (Unit × St) := if k0 = 0 then fX1_send_s43 n b v2 st else fX1_send_s11 n b v2 st
set_option maxHeartbeats 4000000 in
set_option maxRecDepth 100000 in
theorem wX1_send_s8 (C : Cx p s m args meth c cX1_send 6 wsL_law RX1 none D G ad) (n : Nat)  (b : Nat) (v2 : Int32) (k0 : Int32) (ib : isFl b)  (st : St) (res : (Unit × St))  (hf : fX1_send_s8 n  b v2 k0 st = some res) : At p l e (rmK 3) s m args below meth c D G ad (MQV D G ad below args s res) 6 st [(0, .ref (ad b)), (1, .ref (ad 1)), (2, .int v2), (3, .ref (ad 18))] 8 [.int k0] := by
  obtain ⟨hx, hb, hml, hown, hts, hr, hlk, hK, had, hSt⟩ := id C
  intro H locs ls hl hP hS
  unfold fX1_send_s8 at hf
  refine lv_if_eq (tgt := 43) hx hb dX1_send_8 (by decide) (fun q => ?_) (fun q => ?_)
  · exact wX1_send_s43 C n b v2 ib st res (it hf q) H locs ls (lv_sub hl [0, 1, 2, 3] rfl) hP hS
  · exact wX1_send_s11 C n b v2 ib st res (ie hf q) H locs ls (lv_sub hl [0, 2] rfl) hP hS
def fX1_send_s0 (n : Nat)  (b : Nat) (v2 : Int32) (st : St) : Option (Unit × St) := (fX6_isShop n v2 st).bind (fun q => fX1_send_s8 n b v2 q.1 q.2)
set_option maxHeartbeats 4000000 in
set_option maxRecDepth 100000 in
theorem wX1_send_s0 (C : Cx p s m args meth c cX1_send 6 wsL_law RX1 none D G ad) (n : Nat)  (b : Nat) (v2 : Int32) (ib : isFl b)  (st : St) (res : (Unit × St))  (hf : fX1_send_s0 n  b v2 st = some res) : At p l e (rmK 3) s m args below meth c D G ad (MQV D G ad below args s res) 6 st [(0, .ref (ad b)), (1, .ref (ad 1)), (2, .int v2), (3, .ref (ad 18))] 0 [] := by
  obtain ⟨hx, hb, hml, hown, hts, hr, hlk, hK, had, hSt⟩ := id C
  intro H locs ls hl hP hS
  unfold fX1_send_s0 at hf
  refine lv_iconst (v := 0) hx hb dX1_send_0 (by decide) ?_
  refine lv_istore (lv' := [(4, .int 0), (0, .ref (ad b)), (1, .ref (ad 1)), (2, .int v2), (3, .ref (ad 18))]) hx hb dX1_send_1 hl (by decide) rfl (fun ls hl => ?_)
  refine lv_aload_n hx hb dX1_send_3 rfl (lv_at hl 2 rfl) ?_
  refine lv_iload_n hx hb dX1_send_4 rfl (lv_at hl 3 rfl) ?_
  obtain ⟨q, hq, hf⟩ := bd hf
  refine gcV_i (k := 1) (o := 1) (As := [.int v2]) (rest := []) hx hb hml hown hts hK hSt hP hS hl.1 (goodV wm_18_12 wm_9_21 wm_9_22 wm_1_15 wm_9_23) okX6_isShop ct_1 rfl rfl (Nat.le_of_ble_eq_true rfl) (Nat.le_of_ble_eq_true rfl) rfl rfl (Nat.le_of_ble_eq_true rfl) dX1_send_5 (kX6_isShop l D G ad had n  v2 st q hq) (fun H locs hP hS => ?_)
  exact wX1_send_s8 C n b v2 q.1 ib q.2 res hf H locs ls (lv_sub hl [1, 2, 3, 4] rfl) hP hS
def fX1_send (n : Nat) (b : Nat) (a2 : Int32) (st : St) : Option (Unit × St) := fX1_send_s0 n b a2 st
theorem okX1_send : okY yX1_send RX1 3 := by unfold okY; decide +kernel
end
set_option maxRecDepth 100000 in
theorem kX1_send (l : Launch) (D : va_G) (G : G3) (ad : Nat → Nat) (had : Adr ad) (n : Nat) (b : Nat) (ib : isFl b) (a2 : Int32) (st : St) (res : (Unit × St)) (hf : fX1_send n b a2 st = some res) {sz : Nat} : CtV l yX1_send (wsU yX1_send cX1_send 6 none) (rmK 3) D G ad sz [.ref (ad b), .ref (ad 1), .int a2, .ref (ad 18)] st res := by
  refine Met.ofW (cc := cX1_send) (maxL := 6) (ret := none) (by decide) rfl ?_
  intro p e s m args below meth c s₁ B hml hv
  obtain ⟨rfl, hsz, hP, hK, hSt⟩ := hv
  have hts := atoms_spec (ws := wsU yX1_send cX1_send 6 none) B.pre
  have C : Cx p s m _ meth c cX1_send 6 wsL_law RX1 none D G ad := ⟨B.exec, B.bytes, hml, findClass_of_methodNamed B.named, fun w h => hts w (List.mem_cons_of_mem _ h), B.returns, B.notSynchronized, hK, had, hSt⟩
  subst hsz
  have hl := lv_entry ([.ref (ad b), .ref (ad 1), .int a2, .ref (ad 18)]) (n := 6) (Nat.le_of_ble_eq_true rfl)
  rw [lg_entry_eq]
  generalize (lg_sl ([.ref (ad b), .ref (ad 1), .int a2, .ref (ad 18)]) ++ List.replicate (6 - (lg_sl ([.ref (ad b), .ref (ad 1), .int a2, .ref (ad 18)])).length) Slot.unset).toArray = ls at hl ⊢
  exact wX1_send_s0 C n b a2 ib  st res hf s.heap [] ls (lv_sub hl [0, 1, 2, 3] rfl) hP va_S.rf
section
variable {p : Program} {l : Launch} {e : Env} {s : State} {m : MethodId} {args : Array Value} {below : List Frame} {meth : Method} {c : Code} {D : va_G} {G : G3} {ad : Nat → Nat}
def fX1_pass_s198 (n : Nat)  (b : Nat) (b4 : Nat) (v5 : Int64) (st : St) : Option (Int32 × St) := some (((st.2 b 12) - v5).toInt32, st)
set_option maxHeartbeats 4000000 in
set_option maxRecDepth 100000 in
theorem wX1_pass_s198 (C : Cx p s m args meth c cX1_pass 8 wsL_law RX1 (some .int) D G ad) (n : Nat)  (b : Nat) (b4 : Nat) (v5 : Int64) (ib : isFl b) (ib4 : ctab[b4]? = some (.inr (8, 0)))  (st : St) (res : (Int32 × St))  (hf : fX1_pass_s198 n  b b4 v5 st = some res) : At p l e (rmK 4) s m args below meth c D G ad (MQI D G ad below args s res) 8 st [(0, .ref (ad b)), (5, .long v5)] 198 [] := by
  obtain ⟨hx, hb, hml, hown, hts, hr, hlk, hK, had, hSt⟩ := id C
  intro H locs ls hl hP hS
  unfold fX1_pass_s198 at hf
  refine lv_aload_n hx hb dX1_pass_198 rfl (lv_at hl 0 rfl) ?_
  refine g_getJ hx hb hts inlX1 hown hK hP b (fl_0 ib) rfl 12 (by decide) (hts _ wm_17_17) rfl dX1_pass_199 ?_
  refine lv_lload hx hb dX1_pass_202 (lv_at hl 1 rfl) ?_
  refine lv_lsub hx hb dX1_pass_204 ?_
  refine lv_l2i hx hb dX1_pass_205 rfl ?_
  exact g_iret hx hb hr hlk hP hS dX1_pass_206 hf
def fX1_pass_s192 (n : Nat) (K99 : Int64 → Int32 → St → Option (Int32 × St)) (b : Nat) (b4 : Nat) (v5 : Int64) (v7 : Int32) (st : St) : Option (Int32 × St) := K99 v5 (v7 + 1) st
set_option maxHeartbeats 4000000 in
set_option maxRecDepth 100000 in
theorem wX1_pass_s192 (C : Cx p s m args meth c cX1_pass 8 wsL_law RX1 (some .int) D G ad) (n : Nat) (K99 : Int64 → Int32 → St → Option (Int32 × St)) (b : Nat) (b4 : Nat) (v5 : Int64) (v7 : Int32) (ib : isFl b) (ib4 : ctab[b4]? = some (.inr (8, 0)))  (st : St) (res : (Int32 × St)) (hK99 : ∀ (v5 : Int64) (v7 : Int32) (st : St), K99 v5 v7 st = some res → At p l e (rmK 4) s m args below meth c D G ad (MQI D G ad below args s res) 8 st [(0, .ref (ad b)), (1, .ref (ad 1)), (2, .ref (ad 11)), (5, .long v5), (7, .int v7)] 99 []) (hf : fX1_pass_s192 n K99 b b4 v5 v7 st = some res) : At p l e (rmK 4) s m args below meth c D G ad (MQI D G ad below args s res) 8 st [(0, .ref (ad b)), (1, .ref (ad 1)), (2, .ref (ad 11)), (5, .long v5), (7, .int v7)] 192 [] := by
  obtain ⟨hx, hb, hml, hown, hts, hr, hlk, hK, had, hSt⟩ := id C
  intro H locs ls hl hP hS
  unfold fX1_pass_s192 at hf
  refine lv_iinc (v := v7 + 1) (lv' := [(7, .int (v7 + 1)), (0, .ref (ad b)), (1, .ref (ad 1)), (2, .ref (ad 11)), (5, .long v5)]) hx hb dX1_pass_192 hl (k := 4) rfl rfl (by decide) rfl (fun ls hl => ?_)
  refine lv_goto (tgt := 99) hx hb dX1_pass_195 (by decide) ?_
  exact hK99 v5 (v7 + 1)  st hf H locs ls (lv_sub hl [1, 2, 3, 4, 0] rfl) hP hS
def fX1_pass_s147 (n : Nat) (K99 : Int64 → Int32 → St → Option (Int32 × St)) (b : Nat) (b4 : Nat) (v5 : Int64) (v7 : Int32) (st : St) : Option (Int32 × St) := if inb v7 8 = true then (if inb v7 8 = true then (if inb v7 8 = true then (if inb v7 8 = true then (if inb v7 8 = true then (if inb v7 8 = true then (fX1_pass_s192 n K99 b b4 v5 v7 (setJ st (b + 10) v7.toNatClampNeg ((st.2 (b + 10) v7.toNatClampNeg) + ((((st.1 8 v7.toNatClampNeg).toInt64) * ((st.1 (b + 1) v7.toNatClampNeg).toInt64)) + (((st.1 9 v7.toNatClampNeg).toInt64) * ((st.1 (b + 4) v7.toNatClampNeg).toInt64)))))) else none) else none) else none) else none) else none) else none
set_option maxHeartbeats 4000000 in
set_option maxRecDepth 100000 in
theorem wX1_pass_s147 (C : Cx p s m args meth c cX1_pass 8 wsL_law RX1 (some .int) D G ad) (n : Nat) (K99 : Int64 → Int32 → St → Option (Int32 × St)) (b : Nat) (b4 : Nat) (v5 : Int64) (v7 : Int32) (ib : isFl b) (ib4 : ctab[b4]? = some (.inr (8, 0)))  (st : St) (res : (Int32 × St)) (hK99 : ∀ (v5 : Int64) (v7 : Int32) (st : St), K99 v5 v7 st = some res → At p l e (rmK 4) s m args below meth c D G ad (MQI D G ad below args s res) 8 st [(0, .ref (ad b)), (1, .ref (ad 1)), (2, .ref (ad 11)), (5, .long v5), (7, .int v7)] 99 []) (hf : fX1_pass_s147 n K99 b b4 v5 v7 st = some res) : At p l e (rmK 4) s m args below meth c D G ad (MQI D G ad below args s res) 8 st [(0, .ref (ad b)), (1, .ref (ad 1)), (2, .ref (ad 11)), (5, .long v5), (7, .int v7)] 147 [] := by
  obtain ⟨hx, hb, hml, hown, hts, hr, hlk, hK, had, hSt⟩ := id C
  intro H locs ls hl hP hS
  unfold fX1_pass_s147 at hf
  refine lv_aload_n hx hb dX1_pass_147 rfl (lv_at hl 0 rfl) ?_
  refine g_getR hx hb hts inlX1 hown hK hP b (fl_0 ib) rfl 9 (by decide) (hts _ wm_6_21) rfl dX1_pass_148 ?_
  refine lv_iload hx hb dX1_pass_151 (lv_at hl 4 rfl) ?_
  refine lv_dup2_11 hx hb dX1_pass_153 rfl rfl ?_
  obtain ⟨g1, hf⟩ := gd hf
  refine g_lald hx hb hK hP (b + 10) (fl_10 ib) g1 dX1_pass_154 ?_
  refine lv_aload_n hx hb dX1_pass_155 rfl (lv_at hl 1 rfl) ?_
  refine g_getR hx hb hts inlX6 hown hK hP 1 ct_1 rfl 6 (by decide) (hts _ wm_17_20) rfl dX1_pass_156 ?_
  refine lv_iload hx hb dX1_pass_159 (lv_at hl 4 rfl) ?_
  obtain ⟨g2, hf⟩ := gd hf
  refine g_iald hx hb hK hP 8 ct_8 g2 dX1_pass_161 ?_
  refine lv_i2l hx hb dX1_pass_162 rfl ?_
  refine lv_aload_n hx hb dX1_pass_163 rfl (lv_at hl 0 rfl) ?_
  refine g_getR hx hb hts inlX1 hown hK hP b (fl_0 ib) rfl 0 (by decide) (hts _ wm_6_12) rfl dX1_pass_164 ?_
  refine lv_iload hx hb dX1_pass_167 (lv_at hl 4 rfl) ?_
  obtain ⟨g3, hf⟩ := gd hf
  refine g_iald hx hb hK hP (b + 1) (fl_1 ib) g3 dX1_pass_169 ?_
  refine lv_i2l hx hb dX1_pass_170 rfl ?_
  refine lv_lmul hx hb dX1_pass_171 ?_
  refine lv_aload_n hx hb dX1_pass_172 rfl (lv_at hl 1 rfl) ?_
  refine g_getR hx hb hts inlX6 hown hK hP 1 ct_1 rfl 7 (by decide) (hts _ wm_17_21) rfl dX1_pass_173 ?_
  refine lv_iload hx hb dX1_pass_176 (lv_at hl 4 rfl) ?_
  obtain ⟨g4, hf⟩ := gd hf
  refine g_iald hx hb hK hP 9 ct_9 g4 dX1_pass_178 ?_
  refine lv_i2l hx hb dX1_pass_179 rfl ?_
  refine lv_aload_n hx hb dX1_pass_180 rfl (lv_at hl 0 rfl) ?_
  refine g_getR hx hb hts inlX1 hown hK hP b (fl_0 ib) rfl 3 (by decide) (hts _ wm_6_15) rfl dX1_pass_181 ?_
  refine lv_iload hx hb dX1_pass_184 (lv_at hl 4 rfl) ?_
  obtain ⟨g5, hf⟩ := gd hf
  refine g_iald hx hb hK hP (b + 4) (fl_4 ib) g5 dX1_pass_186 ?_
  refine lv_i2l hx hb dX1_pass_187 rfl ?_
  refine lv_lmul hx hb dX1_pass_188 ?_
  refine lv_ladd hx hb dX1_pass_189 ?_
  refine lv_ladd hx hb dX1_pass_190 ?_
  obtain ⟨g6, hf⟩ := gd hf
  refine g_last hx hb hK had hP hS (b + 10) (fl_10 ib) g6 dX1_pass_191 (fun H locs hP hS => ?_)
  exact wX1_pass_s192 C n K99 b b4 v5 v7 ib ib4 (setJ st (b + 10) v7.toNatClampNeg ((st.2 (b + 10) v7.toNatClampNeg) + ((((st.1 8 v7.toNatClampNeg).toInt64) * ((st.1 (b + 1) v7.toNatClampNeg).toInt64)) + (((st.1 9 v7.toNatClampNeg).toInt64) * ((st.1 (b + 4) v7.toNatClampNeg).toInt64))))) res hK99 hf H locs ls (lv_sub hl [0, 1, 2, 3, 4] rfl) hP hS
def fX1_pass_s144 (n : Nat) (K99 : Int64 → Int32 → St → Option (Int32 × St)) (b : Nat) (b4 : Nat) (v5 : Int64) (v7 : Int32) (k2 : Int32) (k3 : Int64) (st : St) : Option (Int32 × St) := (fX1_give n b k2 k3 st).bind (fun q => fX1_pass_s147 n K99 b b4 v5 v7 q.2)
set_option maxHeartbeats 4000000 in
set_option maxRecDepth 100000 in
theorem wX1_pass_s144 (C : Cx p s m args meth c cX1_pass 8 wsL_law RX1 (some .int) D G ad) (n : Nat) (K99 : Int64 → Int32 → St → Option (Int32 × St)) (b : Nat) (b4 : Nat) (v5 : Int64) (v7 : Int32) (k2 : Int32) (k3 : Int64) (ib : isFl b) (ib4 : ctab[b4]? = some (.inr (8, 0)))  (st : St) (res : (Int32 × St)) (hK99 : ∀ (v5 : Int64) (v7 : Int32) (st : St), K99 v5 v7 st = some res → At p l e (rmK 4) s m args below meth c D G ad (MQI D G ad below args s res) 8 st [(0, .ref (ad b)), (1, .ref (ad 1)), (2, .ref (ad 11)), (5, .long v5), (7, .int v7)] 99 []) (hf : fX1_pass_s144 n K99 b b4 v5 v7 k2 k3 st = some res) : At p l e (rmK 4) s m args below meth c D G ad (MQI D G ad below args s res) 8 st [(0, .ref (ad b)), (1, .ref (ad 1)), (2, .ref (ad 11)), (5, .long v5), (7, .int v7)] 144 [.long k3, .int k2, .ref (ad 1), .ref (ad b)] := by
  obtain ⟨hx, hb, hml, hown, hts, hr, hlk, hK, had, hSt⟩ := id C
  intro H locs ls hl hP hS
  unfold fX1_pass_s144 at hf
  obtain ⟨q, hq, hf⟩ := bd hf
  refine gcV_v (k := 1) (o := b) (As := [.ref (ad 1), .int k2, .long k3]) (rest := []) hx hb hml hown hts hK hSt hP hS hl.1 (goodV wm_21_20 wm_21_21 wm_21_22 wm_3_6 wm_21_23) okX1_give (fl_0 ib) rfl rfl (Nat.le_of_ble_eq_true rfl) (Nat.le_of_ble_eq_true rfl) rfl rfl (Nat.le_of_ble_eq_true rfl) dX1_pass_144 (kX1_give l D G ad had n b ib k2 k3 st q hq) (fun H locs hP hS => ?_)
  exact wX1_pass_s147 C n K99 b b4 v5 v7 ib ib4 q.2 res hK99 hf H locs ls (lv_sub hl [0, 1, 2, 3, 4] rfl) hP hS
def fX1_pass_s143 (n : Nat) (K99 : Int64 → Int32 → St → Option (Int32 × St)) (b : Nat) (b4 : Nat) (v5 : Int64) (v7 : Int32) (k2 : Int32) (st : St) : Option (Int32 × St) := fX1_pass_s144 n K99 b b4 v5 v7 k2 0 st
set_option maxHeartbeats 4000000 in
set_option maxRecDepth 100000 in
theorem wX1_pass_s143 (C : Cx p s m args meth c cX1_pass 8 wsL_law RX1 (some .int) D G ad) (n : Nat) (K99 : Int64 → Int32 → St → Option (Int32 × St)) (b : Nat) (b4 : Nat) (v5 : Int64) (v7 : Int32) (k2 : Int32) (ib : isFl b) (ib4 : ctab[b4]? = some (.inr (8, 0)))  (st : St) (res : (Int32 × St)) (hK99 : ∀ (v5 : Int64) (v7 : Int32) (st : St), K99 v5 v7 st = some res → At p l e (rmK 4) s m args below meth c D G ad (MQI D G ad below args s res) 8 st [(0, .ref (ad b)), (1, .ref (ad 1)), (2, .ref (ad 11)), (5, .long v5), (7, .int v7)] 99 []) (hf : fX1_pass_s143 n K99 b b4 v5 v7 k2 st = some res) : At p l e (rmK 4) s m args below meth c D G ad (MQI D G ad below args s res) 8 st [(0, .ref (ad b)), (1, .ref (ad 1)), (2, .ref (ad 11)), (5, .long v5), (7, .int v7)] 143 [.int k2, .ref (ad 1), .ref (ad b)] := by
  obtain ⟨hx, hb, hml, hown, hts, hr, hlk, hK, had, hSt⟩ := id C
  intro H locs ls hl hP hS
  unfold fX1_pass_s143 at hf
  refine lv_lconst (v := 0) hx hb dX1_pass_143 (by decide) ?_
  exact wX1_pass_s144 C n K99 b b4 v5 v7 k2 0 ib ib4 st res hK99 hf H locs ls (lv_sub hl [0, 1, 2, 3, 4] rfl) hP hS
def fX1_pass_s140 (n : Nat) (K99 : Int64 → Int32 → St → Option (Int32 × St)) (b : Nat) (b4 : Nat) (v5 : Int64) (v7 : Int32) (k2 : Int32) (k3 : Int64) (st : St) : Option (Int32 × St) := fX1_pass_s144 n K99 b b4 v5 v7 k2 k3 st
set_option maxHeartbeats 4000000 in
set_option maxRecDepth 100000 in
theorem wX1_pass_s140 (C : Cx p s m args meth c cX1_pass 8 wsL_law RX1 (some .int) D G ad) (n : Nat) (K99 : Int64 → Int32 → St → Option (Int32 × St)) (b : Nat) (b4 : Nat) (v5 : Int64) (v7 : Int32) (k2 : Int32) (k3 : Int64) (ib : isFl b) (ib4 : ctab[b4]? = some (.inr (8, 0)))  (st : St) (res : (Int32 × St)) (hK99 : ∀ (v5 : Int64) (v7 : Int32) (st : St), K99 v5 v7 st = some res → At p l e (rmK 4) s m args below meth c D G ad (MQI D G ad below args s res) 8 st [(0, .ref (ad b)), (1, .ref (ad 1)), (2, .ref (ad 11)), (5, .long v5), (7, .int v7)] 99 []) (hf : fX1_pass_s140 n K99 b b4 v5 v7 k2 k3 st = some res) : At p l e (rmK 4) s m args below meth c D G ad (MQI D G ad below args s res) 8 st [(0, .ref (ad b)), (1, .ref (ad 1)), (2, .ref (ad 11)), (5, .long v5), (7, .int v7)] 140 [.long k3, .int k2, .ref (ad 1), .ref (ad b)] := by
  obtain ⟨hx, hb, hml, hown, hts, hr, hlk, hK, had, hSt⟩ := id C
  intro H locs ls hl hP hS
  unfold fX1_pass_s140 at hf
  refine lv_goto (tgt := 144) hx hb dX1_pass_140 (by decide) ?_
  exact wX1_pass_s144 C n K99 b b4 v5 v7 k2 k3 ib ib4 st res hK99 hf H locs ls (lv_sub hl [0, 1, 2, 3, 4] rfl) hP hS
def fX1_pass_s126 (n : Nat) (K99 : Int64 → Int32 → St → Option (Int32 × St)) (b : Nat) (b4 : Nat) (v5 : Int64) (v7 : Int32) (k2 : Int32) (st : St) : Option (Int32 × St) := if inb v7 8 = true then ((fX7_valueOf n b (st.1 10 v7.toNatClampNeg) v7 st).bind (fun q => fX1_pass_s140 n K99 b b4 v5 v7 k2 q.1 q.2)) else none
set_option maxHeartbeats 4000000 in
set_option maxRecDepth 100000 in
theorem wX1_pass_s126 (C : Cx p s m args meth c cX1_pass 8 wsL_law RX1 (some .int) D G ad) (n : Nat) (K99 : Int64 → Int32 → St → Option (Int32 × St)) (b : Nat) (b4 : Nat) (v5 : Int64) (v7 : Int32) (k2 : Int32) (ib : isFl b) (ib4 : ctab[b4]? = some (.inr (8, 0)))  (st : St) (res : (Int32 × St)) (hK99 : ∀ (v5 : Int64) (v7 : Int32) (st : St), K99 v5 v7 st = some res → At p l e (rmK 4) s m args below meth c D G ad (MQI D G ad below args s res) 8 st [(0, .ref (ad b)), (1, .ref (ad 1)), (2, .ref (ad 11)), (5, .long v5), (7, .int v7)] 99 []) (hf : fX1_pass_s126 n K99 b b4 v5 v7 k2 st = some res) : At p l e (rmK 4) s m args below meth c D G ad (MQI D G ad below args s res) 8 st [(0, .ref (ad b)), (1, .ref (ad 1)), (2, .ref (ad 11)), (5, .long v5), (7, .int v7)] 126 [.int k2, .ref (ad 1), .ref (ad b)] := by
  obtain ⟨hx, hb, hml, hown, hts, hr, hlk, hK, had, hSt⟩ := id C
  intro H locs ls hl hP hS
  unfold fX1_pass_s126 at hf
  refine lv_aload_n hx hb dX1_pass_126 rfl (lv_at hl 2 rfl) ?_
  refine lv_aload_n hx hb dX1_pass_127 rfl (lv_at hl 1 rfl) ?_
  refine g_getR hx hb hts inlX6 hown hK hP 1 ct_1 rfl 8 (by decide) (hts _ wm_17_19) rfl dX1_pass_128 ?_
  refine lv_iload hx hb dX1_pass_131 (lv_at hl 4 rfl) ?_
  obtain ⟨g1, hf⟩ := gd hf
  refine g_iald hx hb hK hP 10 ct_10 g1 dX1_pass_133 ?_
  refine lv_aload_n hx hb dX1_pass_134 rfl (lv_at hl 0 rfl) ?_
  refine lv_iload hx hb dX1_pass_135 (lv_at hl 4 rfl) ?_
  obtain ⟨q, hq, hf⟩ := bd hf
  refine gcV_j (k := 3) (o := 11) (As := [.int (st.1 10 v7.toNatClampNeg), .ref (ad b), .int v7]) (rest := [.int k2, .ref (ad 1), .ref (ad b)]) hx hb hml hown hts hK hSt hP hS hl.1 (goodV wm_20_13 wm_20_14 wm_20_15 wm_1_19 wm_20_16) okX7_valueOf ct_11 rfl rfl (Nat.le_of_ble_eq_true rfl) (Nat.le_of_ble_eq_true rfl) rfl rfl (Nat.le_of_ble_eq_true rfl) dX1_pass_137 (kX7_valueOf l D G ad had n b ib (st.1 10 v7.toNatClampNeg) v7 st q hq) (fun H locs hP hS => ?_)
  exact wX1_pass_s140 C n K99 b b4 v5 v7 k2 q.1 ib ib4 q.2 res hK99 hf H locs ls (lv_sub hl [0, 1, 2, 3, 4] rfl) hP hS
def fX1_pass_s123 (n : Nat) (K99 : Int64 → Int32 → St → Option (Int32 × St)) (b : Nat) (b4 : Nat) (v5 : Int64) (v7 : Int32) (k2 : Int32) (k3 : Int32) (st : St) : Option (Int32 × St) := if k3 = 0 then fX1_pass_s143 n K99 b b4 v5 v7 k2 st else fX1_pass_s126 n K99 b b4 v5 v7 k2 st
set_option maxHeartbeats 4000000 in
set_option maxRecDepth 100000 in
theorem wX1_pass_s123 (C : Cx p s m args meth c cX1_pass 8 wsL_law RX1 (some .int) D G ad) (n : Nat) (K99 : Int64 → Int32 → St → Option (Int32 × St)) (b : Nat) (b4 : Nat) (v5 : Int64) (v7 : Int32) (k2 : Int32) (k3 : Int32) (ib : isFl b) (ib4 : ctab[b4]? = some (.inr (8, 0)))  (st : St) (res : (Int32 × St)) (hK99 : ∀ (v5 : Int64) (v7 : Int32) (st : St), K99 v5 v7 st = some res → At p l e (rmK 4) s m args below meth c D G ad (MQI D G ad below args s res) 8 st [(0, .ref (ad b)), (1, .ref (ad 1)), (2, .ref (ad 11)), (5, .long v5), (7, .int v7)] 99 []) (hf : fX1_pass_s123 n K99 b b4 v5 v7 k2 k3 st = some res) : At p l e (rmK 4) s m args below meth c D G ad (MQI D G ad below args s res) 8 st [(0, .ref (ad b)), (1, .ref (ad 1)), (2, .ref (ad 11)), (5, .long v5), (7, .int v7)] 123 [.int k3, .int k2, .ref (ad 1), .ref (ad b)] := by
  obtain ⟨hx, hb, hml, hown, hts, hr, hlk, hK, had, hSt⟩ := id C
  intro H locs ls hl hP hS
  unfold fX1_pass_s123 at hf
  refine lv_if_eq (tgt := 143) hx hb dX1_pass_123 (by decide) (fun q => ?_) (fun q => ?_)
  · exact wX1_pass_s143 C n K99 b b4 v5 v7 k2 ib ib4 st res hK99 (it hf q) H locs ls (lv_sub hl [0, 1, 2, 3, 4] rfl) hP hS
  · exact wX1_pass_s126 C n K99 b b4 v5 v7 k2 ib ib4 st res hK99 (ie hf q) H locs ls (lv_sub hl [0, 1, 2, 3, 4] rfl) hP hS
def fX1_pass_s108 (n : Nat) (K99 : Int64 → Int32 → St → Option (Int32 × St)) (b : Nat) (b4 : Nat) (v5 : Int64) (v7 : Int32) (st : St) : Option (Int32 × St) := if inb v7 8 = true then ((fX7_has n (st.1 10 v7.toNatClampNeg) st).bind (fun q => fX1_pass_s123 n K99 b b4 v5 v7 v7 q.1 q.2)) else none
set_option maxHeartbeats 4000000 in
set_option maxRecDepth 100000 in
theorem wX1_pass_s108 (C : Cx p s m args meth c cX1_pass 8 wsL_law RX1 (some .int) D G ad) (n : Nat) (K99 : Int64 → Int32 → St → Option (Int32 × St)) (b : Nat) (b4 : Nat) (v5 : Int64) (v7 : Int32) (ib : isFl b) (ib4 : ctab[b4]? = some (.inr (8, 0)))  (st : St) (res : (Int32 × St)) (hK99 : ∀ (v5 : Int64) (v7 : Int32) (st : St), K99 v5 v7 st = some res → At p l e (rmK 4) s m args below meth c D G ad (MQI D G ad below args s res) 8 st [(0, .ref (ad b)), (1, .ref (ad 1)), (2, .ref (ad 11)), (5, .long v5), (7, .int v7)] 99 []) (hf : fX1_pass_s108 n K99 b b4 v5 v7 st = some res) : At p l e (rmK 4) s m args below meth c D G ad (MQI D G ad below args s res) 8 st [(0, .ref (ad b)), (1, .ref (ad 1)), (2, .ref (ad 11)), (5, .long v5), (7, .int v7)] 108 [] := by
  obtain ⟨hx, hb, hml, hown, hts, hr, hlk, hK, had, hSt⟩ := id C
  intro H locs ls hl hP hS
  unfold fX1_pass_s108 at hf
  refine lv_aload_n hx hb dX1_pass_108 rfl (lv_at hl 0 rfl) ?_
  refine lv_aload_n hx hb dX1_pass_109 rfl (lv_at hl 1 rfl) ?_
  refine lv_iload hx hb dX1_pass_110 (lv_at hl 4 rfl) ?_
  refine lv_aload_n hx hb dX1_pass_112 rfl (lv_at hl 2 rfl) ?_
  refine lv_aload_n hx hb dX1_pass_113 rfl (lv_at hl 1 rfl) ?_
  refine g_getR hx hb hts inlX6 hown hK hP 1 ct_1 rfl 8 (by decide) (hts _ wm_17_19) rfl dX1_pass_114 ?_
  refine lv_iload hx hb dX1_pass_117 (lv_at hl 4 rfl) ?_
  obtain ⟨g1, hf⟩ := gd hf
  refine g_iald hx hb hK hP 10 ct_10 g1 dX1_pass_119 ?_
  obtain ⟨q, hq, hf⟩ := bd hf
  refine gcV_i (k := 0) (o := 11) (As := [.int (st.1 10 v7.toNatClampNeg)]) (rest := [.int v7, .ref (ad 1), .ref (ad b)]) hx hb hml hown hts hK hSt hP hS hl.1 (goodV wm_20_12 wm_11_20 wm_11_21 wm_1_19 wm_11_22) okX7_has ct_11 rfl rfl (Nat.le_of_ble_eq_true rfl) (Nat.le_of_ble_eq_true rfl) rfl rfl (Nat.le_of_ble_eq_true rfl) dX1_pass_120 (kX7_has l D G ad had n  (st.1 10 v7.toNatClampNeg) st q hq) (fun H locs hP hS => ?_)
  exact wX1_pass_s123 C n K99 b b4 v5 v7 v7 q.1 ib ib4 q.2 res hK99 hf H locs ls (lv_sub hl [0, 1, 2, 3, 4] rfl) hP hS
def fX1_pass_s99 (n : Nat) (K99 : Int64 → Int32 → St → Option (Int32 × St)) (b : Nat) (b4 : Nat) (v5 : Int64) (v7 : Int32) (st : St) : Option (Int32 × St) := if (st.1 1 9) ≤ v7 then fX1_pass_s198 n b b4 v5 st else fX1_pass_s108 n K99 b b4 v5 v7 st
set_option maxHeartbeats 4000000 in
set_option maxRecDepth 100000 in
theorem wX1_pass_s99 (C : Cx p s m args meth c cX1_pass 8 wsL_law RX1 (some .int) D G ad) (n : Nat) (K99 : Int64 → Int32 → St → Option (Int32 × St)) (b : Nat) (b4 : Nat) (v5 : Int64) (v7 : Int32) (ib : isFl b) (ib4 : ctab[b4]? = some (.inr (8, 0)))  (st : St) (res : (Int32 × St)) (hK99 : ∀ (v5 : Int64) (v7 : Int32) (st : St), K99 v5 v7 st = some res → At p l e (rmK 4) s m args below meth c D G ad (MQI D G ad below args s res) 8 st [(0, .ref (ad b)), (1, .ref (ad 1)), (2, .ref (ad 11)), (5, .long v5), (7, .int v7)] 99 []) (hf : fX1_pass_s99 n K99 b b4 v5 v7 st = some res) : At p l e (rmK 4) s m args below meth c D G ad (MQI D G ad below args s res) 8 st [(0, .ref (ad b)), (1, .ref (ad 1)), (2, .ref (ad 11)), (5, .long v5), (7, .int v7)] 99 [] := by
  obtain ⟨hx, hb, hml, hown, hts, hr, hlk, hK, had, hSt⟩ := id C
  intro H locs ls hl hP hS
  unfold fX1_pass_s99 at hf
  refine lv_iload hx hb dX1_pass_99 (lv_at hl 4 rfl) ?_
  refine lv_aload_n hx hb dX1_pass_101 rfl (lv_at hl 1 rfl) ?_
  refine g_getI hx hb hts inlX6 hown hK hP 1 ct_1 rfl 9 (by decide) (hts _ wm_17_18) rfl dX1_pass_102 ?_
  refine lv_icmp_ge (tgt := 198) hx hb dX1_pass_105 (by decide) (fun q => ?_) (fun q => ?_)
  · exact wX1_pass_s198 C n b b4 v5 ib ib4 st res (it hf q) H locs ls (lv_sub hl [0, 3] rfl) hP hS
  · exact wX1_pass_s108 C n K99 b b4 v5 v7 ib ib4 st res hK99 (ie hf q) H locs ls (lv_sub hl [0, 1, 2, 3, 4] rfl) hP hS
def fX1_pass_L99 (n : Nat)  (b : Nat) (b4 : Nat) : Nat → Int64 → Int32 → St → Option (Int32 × St)
  | 0, _, _, _ => none
  | k + 1, v5, v7, st => fX1_pass_s99 n (fX1_pass_L99 n b b4 k) b b4 v5 v7 st
theorem wX1_pass_L99 (C : Cx p s m args meth c cX1_pass 8 wsL_law RX1 (some .int) D G ad) (n : Nat)  (b : Nat) (b4 : Nat) (ib : isFl b) (ib4 : ctab[b4]? = some (.inr (8, 0))) (res : (Int32 × St))  : ∀ (k : Nat) (v5 : Int64) (v7 : Int32)  (st : St), fX1_pass_L99 n b b4 k v5 v7 st = some res → At p l e (rmK 4) s m args below meth c D G ad (MQI D G ad below args s res) 8 st [(0, .ref (ad b)), (1, .ref (ad 1)), (2, .ref (ad 11)), (5, .long v5), (7, .int v7)] 99 [] := by
  intro k
  induction k with
  | zero => intro v5 v7  st h; exact absurd h (by intro q; cases q)
  | succ k ih => intro v5 v7  st h; exact wX1_pass_s99 C n (fX1_pass_L99 n b b4 k) b b4 v5 v7 ib ib4  st res ih h
def fX1_pass_s96 (n : Nat)  (b : Nat) (b4 : Nat) (v5 : Int64) (st : St) : Option (Int32 × St) := fX1_pass_L99 n b b4 n v5 0 st
set_option maxHeartbeats 4000000 in
set_option maxRecDepth 100000 in
theorem wX1_pass_s96 (C : Cx p s m args meth c cX1_pass 8 wsL_law RX1 (some .int) D G ad) (n : Nat)  (b : Nat) (b4 : Nat) (v5 : Int64) (ib : isFl b) (ib4 : ctab[b4]? = some (.inr (8, 0)))  (st : St) (res : (Int32 × St))  (hf : fX1_pass_s96 n  b b4 v5 st = some res) : At p l e (rmK 4) s m args below meth c D G ad (MQI D G ad below args s res) 8 st [(0, .ref (ad b)), (1, .ref (ad 1)), (2, .ref (ad 11)), (5, .long v5)] 96 [] := by
  obtain ⟨hx, hb, hml, hown, hts, hr, hlk, hK, had, hSt⟩ := id C
  intro H locs ls hl hP hS
  unfold fX1_pass_s96 at hf
  refine lv_iconst (v := 0) hx hb dX1_pass_96 (by decide) ?_
  refine lv_istore (lv' := [(7, .int 0), (0, .ref (ad b)), (1, .ref (ad 1)), (2, .ref (ad 11)), (5, .long v5)]) hx hb dX1_pass_97 hl (by decide) rfl (fun ls hl => ?_)
  exact wX1_pass_L99 C n b b4 ib ib4 res n v5 0 st hf H locs ls (lv_sub hl [1, 2, 3, 4, 0] rfl) hP hS
def fX1_pass_s90 (n : Nat) (K73 : Int64 → Int32 → St → Option (Int32 × St)) (b : Nat) (b4 : Nat) (v5 : Int64) (v7 : Int32) (st : St) : Option (Int32 × St) := K73 v5 (v7 + 1) st
set_option maxHeartbeats 4000000 in
set_option maxRecDepth 100000 in
theorem wX1_pass_s90 (C : Cx p s m args meth c cX1_pass 8 wsL_law RX1 (some .int) D G ad) (n : Nat) (K73 : Int64 → Int32 → St → Option (Int32 × St)) (b : Nat) (b4 : Nat) (v5 : Int64) (v7 : Int32) (ib : isFl b) (ib4 : ctab[b4]? = some (.inr (8, 0)))  (st : St) (res : (Int32 × St)) (hK73 : ∀ (v5 : Int64) (v7 : Int32) (st : St), K73 v5 v7 st = some res → At p l e (rmK 4) s m args below meth c D G ad (MQI D G ad below args s res) 8 st [(0, .ref (ad b)), (1, .ref (ad 1)), (2, .ref (ad 11)), (3, .ref (ad 18)), (5, .long v5), (7, .int v7)] 73 []) (hf : fX1_pass_s90 n K73 b b4 v5 v7 st = some res) : At p l e (rmK 4) s m args below meth c D G ad (MQI D G ad below args s res) 8 st [(0, .ref (ad b)), (1, .ref (ad 1)), (2, .ref (ad 11)), (3, .ref (ad 18)), (5, .long v5), (7, .int v7)] 90 [] := by
  obtain ⟨hx, hb, hml, hown, hts, hr, hlk, hK, had, hSt⟩ := id C
  intro H locs ls hl hP hS
  unfold fX1_pass_s90 at hf
  refine lv_iinc (v := v7 + 1) (lv' := [(7, .int (v7 + 1)), (0, .ref (ad b)), (1, .ref (ad 1)), (2, .ref (ad 11)), (3, .ref (ad 18)), (5, .long v5)]) hx hb dX1_pass_90 hl (k := 5) rfl rfl (by decide) rfl (fun ls hl => ?_)
  refine lv_goto (tgt := 73) hx hb dX1_pass_93 (by decide) ?_
  exact hK73 v5 (v7 + 1)  st hf H locs ls (lv_sub hl [1, 2, 3, 4, 5, 0] rfl) hP hS
def fX1_pass_s82 (n : Nat) (K73 : Int64 → Int32 → St → Option (Int32 × St)) (b : Nat) (b4 : Nat) (v5 : Int64) (v7 : Int32) (st : St) : Option (Int32 × St) := (fX1_send n b v7 st).bind (fun q => fX1_pass_s90 n K73 b b4 v5 v7 q.2)
set_option maxHeartbeats 4000000 in
set_option maxRecDepth 100000 in
theorem wX1_pass_s82 (C : Cx p s m args meth c cX1_pass 8 wsL_law RX1 (some .int) D G ad) (n : Nat) (K73 : Int64 → Int32 → St → Option (Int32 × St)) (b : Nat) (b4 : Nat) (v5 : Int64) (v7 : Int32) (ib : isFl b) (ib4 : ctab[b4]? = some (.inr (8, 0)))  (st : St) (res : (Int32 × St)) (hK73 : ∀ (v5 : Int64) (v7 : Int32) (st : St), K73 v5 v7 st = some res → At p l e (rmK 4) s m args below meth c D G ad (MQI D G ad below args s res) 8 st [(0, .ref (ad b)), (1, .ref (ad 1)), (2, .ref (ad 11)), (3, .ref (ad 18)), (5, .long v5), (7, .int v7)] 73 []) (hf : fX1_pass_s82 n K73 b b4 v5 v7 st = some res) : At p l e (rmK 4) s m args below meth c D G ad (MQI D G ad below args s res) 8 st [(0, .ref (ad b)), (1, .ref (ad 1)), (2, .ref (ad 11)), (3, .ref (ad 18)), (5, .long v5), (7, .int v7)] 82 [] := by
  obtain ⟨hx, hb, hml, hown, hts, hr, hlk, hK, had, hSt⟩ := id C
  intro H locs ls hl hP hS
  unfold fX1_pass_s82 at hf
  refine lv_aload_n hx hb dX1_pass_82 rfl (lv_at hl 0 rfl) ?_
  refine lv_aload_n hx hb dX1_pass_83 rfl (lv_at hl 1 rfl) ?_
  refine lv_iload hx hb dX1_pass_84 (lv_at hl 5 rfl) ?_
  refine lv_aload_n hx hb dX1_pass_86 rfl (lv_at hl 3 rfl) ?_
  obtain ⟨q, hq, hf⟩ := bd hf
  refine gcV_v (k := 3) (o := b) (As := [.ref (ad 1), .int v7, .ref (ad 18)]) (rest := []) hx hb hml hown hts hK hSt hP hS hl.1 (goodV wm_18_14 wm_18_15 wm_18_16 wm_3_6 wm_18_17) okX1_send (fl_0 ib) rfl rfl (Nat.le_of_ble_eq_true rfl) (Nat.le_of_ble_eq_true rfl) rfl rfl (Nat.le_of_ble_eq_true rfl) dX1_pass_87 (kX1_send l D G ad had n b ib v7 st q hq) (fun H locs hP hS => ?_)
  exact wX1_pass_s90 C n K73 b b4 v5 v7 ib ib4 q.2 res hK73 hf H locs ls (lv_sub hl [0, 1, 2, 3, 4, 5] rfl) hP hS
def fX1_pass_s73 (n : Nat) (K73 : Int64 → Int32 → St → Option (Int32 × St)) (b : Nat) (b4 : Nat) (v5 : Int64) (v7 : Int32) (st : St) : Option (Int32 × St) := if (st.1 1 9) ≤ v7 then fX1_pass_s96 n b b4 v5 st else fX1_pass_s82 n K73 b b4 v5 v7 st
set_option maxHeartbeats 4000000 in
set_option maxRecDepth 100000 in
theorem wX1_pass_s73 (C : Cx p s m args meth c cX1_pass 8 wsL_law RX1 (some .int) D G ad) (n : Nat) (K73 : Int64 → Int32 → St → Option (Int32 × St)) (b : Nat) (b4 : Nat) (v5 : Int64) (v7 : Int32) (ib : isFl b) (ib4 : ctab[b4]? = some (.inr (8, 0)))  (st : St) (res : (Int32 × St)) (hK73 : ∀ (v5 : Int64) (v7 : Int32) (st : St), K73 v5 v7 st = some res → At p l e (rmK 4) s m args below meth c D G ad (MQI D G ad below args s res) 8 st [(0, .ref (ad b)), (1, .ref (ad 1)), (2, .ref (ad 11)), (3, .ref (ad 18)), (5, .long v5), (7, .int v7)] 73 []) (hf : fX1_pass_s73 n K73 b b4 v5 v7 st = some res) : At p l e (rmK 4) s m args below meth c D G ad (MQI D G ad below args s res) 8 st [(0, .ref (ad b)), (1, .ref (ad 1)), (2, .ref (ad 11)), (3, .ref (ad 18)), (5, .long v5), (7, .int v7)] 73 [] := by
  obtain ⟨hx, hb, hml, hown, hts, hr, hlk, hK, had, hSt⟩ := id C
  intro H locs ls hl hP hS
  unfold fX1_pass_s73 at hf
  refine lv_iload hx hb dX1_pass_73 (lv_at hl 5 rfl) ?_
  refine lv_aload_n hx hb dX1_pass_75 rfl (lv_at hl 1 rfl) ?_
  refine g_getI hx hb hts inlX6 hown hK hP 1 ct_1 rfl 9 (by decide) (hts _ wm_17_18) rfl dX1_pass_76 ?_
  refine lv_icmp_ge (tgt := 96) hx hb dX1_pass_79 (by decide) (fun q => ?_) (fun q => ?_)
  · exact wX1_pass_s96 C n b b4 v5 ib ib4 st res (it hf q) H locs ls (lv_sub hl [0, 1, 2, 4] rfl) hP hS
  · exact wX1_pass_s82 C n K73 b b4 v5 v7 ib ib4 st res hK73 (ie hf q) H locs ls (lv_sub hl [0, 1, 2, 3, 4, 5] rfl) hP hS
def fX1_pass_L73 (n : Nat)  (b : Nat) (b4 : Nat) : Nat → Int64 → Int32 → St → Option (Int32 × St)
  | 0, _, _, _ => none
  | k + 1, v5, v7, st => fX1_pass_s73 n (fX1_pass_L73 n b b4 k) b b4 v5 v7 st
theorem wX1_pass_L73 (C : Cx p s m args meth c cX1_pass 8 wsL_law RX1 (some .int) D G ad) (n : Nat)  (b : Nat) (b4 : Nat) (ib : isFl b) (ib4 : ctab[b4]? = some (.inr (8, 0))) (res : (Int32 × St))  : ∀ (k : Nat) (v5 : Int64) (v7 : Int32)  (st : St), fX1_pass_L73 n b b4 k v5 v7 st = some res → At p l e (rmK 4) s m args below meth c D G ad (MQI D G ad below args s res) 8 st [(0, .ref (ad b)), (1, .ref (ad 1)), (2, .ref (ad 11)), (3, .ref (ad 18)), (5, .long v5), (7, .int v7)] 73 [] := by
  intro k
  induction k with
  | zero => intro v5 v7  st h; exact absurd h (by intro q; cases q)
  | succ k ih => intro v5 v7  st h; exact wX1_pass_s73 C n (fX1_pass_L73 n b b4 k) b b4 v5 v7 ib ib4  st res ih h
def fX1_pass_s70 (n : Nat)  (b : Nat) (b4 : Nat) (v5 : Int64) (st : St) : Option (Int32 × St) := fX1_pass_L73 n b b4 n v5 0 st
set_option maxHeartbeats 4000000 in
set_option maxRecDepth 100000 in
theorem wX1_pass_s70 (C : Cx p s m args meth c cX1_pass 8 wsL_law RX1 (some .int) D G ad) (n : Nat)  (b : Nat) (b4 : Nat) (v5 : Int64) (ib : isFl b) (ib4 : ctab[b4]? = some (.inr (8, 0)))  (st : St) (res : (Int32 × St))  (hf : fX1_pass_s70 n  b b4 v5 st = some res) : At p l e (rmK 4) s m args below meth c D G ad (MQI D G ad below args s res) 8 st [(0, .ref (ad b)), (1, .ref (ad 1)), (2, .ref (ad 11)), (3, .ref (ad 18)), (5, .long v5)] 70 [] := by
  obtain ⟨hx, hb, hml, hown, hts, hr, hlk, hK, had, hSt⟩ := id C
  intro H locs ls hl hP hS
  unfold fX1_pass_s70 at hf
  refine lv_iconst (v := 0) hx hb dX1_pass_70 (by decide) ?_
  refine lv_istore (lv' := [(7, .int 0), (0, .ref (ad b)), (1, .ref (ad 1)), (2, .ref (ad 11)), (3, .ref (ad 18)), (5, .long v5)]) hx hb dX1_pass_71 hl (by decide) rfl (fun ls hl => ?_)
  exact wX1_pass_L73 C n b b4 ib ib4 res n v5 0 st hf H locs ls (lv_sub hl [1, 2, 3, 4, 5, 0] rfl) hP hS
def fX1_pass_s64 (n : Nat) (K43 : Int64 → Int32 → St → Option (Int32 × St)) (b : Nat) (b4 : Nat) (v5 : Int64) (v7 : Int32) (st : St) : Option (Int32 × St) := K43 v5 (v7 + 1) st
set_option maxHeartbeats 4000000 in
set_option maxRecDepth 100000 in
theorem wX1_pass_s64 (C : Cx p s m args meth c cX1_pass 8 wsL_law RX1 (some .int) D G ad) (n : Nat) (K43 : Int64 → Int32 → St → Option (Int32 × St)) (b : Nat) (b4 : Nat) (v5 : Int64) (v7 : Int32) (ib : isFl b) (ib4 : ctab[b4]? = some (.inr (8, 0)))  (st : St) (res : (Int32 × St)) (hK43 : ∀ (v5 : Int64) (v7 : Int32) (st : St), K43 v5 v7 st = some res → At p l e (rmK 4) s m args below meth c D G ad (MQI D G ad below args s res) 8 st [(0, .ref (ad b)), (1, .ref (ad 1)), (2, .ref (ad 11)), (3, .ref (ad 18)), (4, .ref (ad b4)), (5, .long v5), (7, .int v7)] 43 []) (hf : fX1_pass_s64 n K43 b b4 v5 v7 st = some res) : At p l e (rmK 4) s m args below meth c D G ad (MQI D G ad below args s res) 8 st [(0, .ref (ad b)), (1, .ref (ad 1)), (2, .ref (ad 11)), (3, .ref (ad 18)), (4, .ref (ad b4)), (5, .long v5), (7, .int v7)] 64 [] := by
  obtain ⟨hx, hb, hml, hown, hts, hr, hlk, hK, had, hSt⟩ := id C
  intro H locs ls hl hP hS
  unfold fX1_pass_s64 at hf
  refine lv_iinc (v := v7 + 1) (lv' := [(7, .int (v7 + 1)), (0, .ref (ad b)), (1, .ref (ad 1)), (2, .ref (ad 11)), (3, .ref (ad 18)), (4, .ref (ad b4)), (5, .long v5)]) hx hb dX1_pass_64 hl (k := 6) rfl rfl (by decide) rfl (fun ls hl => ?_)
  refine lv_goto (tgt := 43) hx hb dX1_pass_67 (by decide) ?_
  exact hK43 v5 (v7 + 1)  st hf H locs ls (lv_sub hl [1, 2, 3, 4, 5, 6, 0] rfl) hP hS
def fX1_pass_s52 (n : Nat) (K43 : Int64 → Int32 → St → Option (Int32 × St)) (b : Nat) (b4 : Nat) (v5 : Int64) (v7 : Int32) (st : St) : Option (Int32 × St) := if inb v7 8 = true then ((fX1_learn n b v7 (st.1 b4 v7.toNatClampNeg) st).bind (fun q => fX1_pass_s64 n K43 b b4 v5 v7 q.2)) else none
set_option maxHeartbeats 4000000 in
set_option maxRecDepth 100000 in
theorem wX1_pass_s52 (C : Cx p s m args meth c cX1_pass 8 wsL_law RX1 (some .int) D G ad) (n : Nat) (K43 : Int64 → Int32 → St → Option (Int32 × St)) (b : Nat) (b4 : Nat) (v5 : Int64) (v7 : Int32) (ib : isFl b) (ib4 : ctab[b4]? = some (.inr (8, 0)))  (st : St) (res : (Int32 × St)) (hK43 : ∀ (v5 : Int64) (v7 : Int32) (st : St), K43 v5 v7 st = some res → At p l e (rmK 4) s m args below meth c D G ad (MQI D G ad below args s res) 8 st [(0, .ref (ad b)), (1, .ref (ad 1)), (2, .ref (ad 11)), (3, .ref (ad 18)), (4, .ref (ad b4)), (5, .long v5), (7, .int v7)] 43 []) (hf : fX1_pass_s52 n K43 b b4 v5 v7 st = some res) : At p l e (rmK 4) s m args below meth c D G ad (MQI D G ad below args s res) 8 st [(0, .ref (ad b)), (1, .ref (ad 1)), (2, .ref (ad 11)), (3, .ref (ad 18)), (4, .ref (ad b4)), (5, .long v5), (7, .int v7)] 52 [] := by
  obtain ⟨hx, hb, hml, hown, hts, hr, hlk, hK, had, hSt⟩ := id C
  intro H locs ls hl hP hS
  unfold fX1_pass_s52 at hf
  refine lv_aload_n hx hb dX1_pass_52 rfl (lv_at hl 0 rfl) ?_
  refine lv_aload_n hx hb dX1_pass_53 rfl (lv_at hl 1 rfl) ?_
  refine lv_iload hx hb dX1_pass_54 (lv_at hl 6 rfl) ?_
  refine lv_aload hx hb dX1_pass_56 (lv_at hl 4 rfl) ?_
  refine lv_iload hx hb dX1_pass_58 (lv_at hl 6 rfl) ?_
  obtain ⟨g1, hf⟩ := gd hf
  refine g_iald hx hb hK hP b4 ib4 g1 dX1_pass_60 ?_
  obtain ⟨q, hq, hf⟩ := bd hf
  refine gcV_v (k := 2) (o := b) (As := [.ref (ad 1), .int v7, .int (st.1 b4 v7.toNatClampNeg)]) (rest := []) hx hb hml hown hts hK hSt hP hS hl.1 (goodV wm_18_6 wm_18_7 wm_18_8 wm_3_6 wm_18_9) okX1_learn (fl_0 ib) rfl rfl (Nat.le_of_ble_eq_true rfl) (Nat.le_of_ble_eq_true rfl) rfl rfl (Nat.le_of_ble_eq_true rfl) dX1_pass_61 (kX1_learn l D G ad had n b ib v7 (st.1 b4 v7.toNatClampNeg) st q hq) (fun H locs hP hS => ?_)
  exact wX1_pass_s64 C n K43 b b4 v5 v7 ib ib4 q.2 res hK43 hf H locs ls (lv_sub hl [0, 1, 2, 3, 4, 5, 6] rfl) hP hS
def fX1_pass_s43 (n : Nat) (K43 : Int64 → Int32 → St → Option (Int32 × St)) (b : Nat) (b4 : Nat) (v5 : Int64) (v7 : Int32) (st : St) : Option (Int32 × St) := if (st.1 1 9) ≤ v7 then fX1_pass_s70 n b b4 v5 st else fX1_pass_s52 n K43 b b4 v5 v7 st
set_option maxHeartbeats 4000000 in
set_option maxRecDepth 100000 in
theorem wX1_pass_s43 (C : Cx p s m args meth c cX1_pass 8 wsL_law RX1 (some .int) D G ad) (n : Nat) (K43 : Int64 → Int32 → St → Option (Int32 × St)) (b : Nat) (b4 : Nat) (v5 : Int64) (v7 : Int32) (ib : isFl b) (ib4 : ctab[b4]? = some (.inr (8, 0)))  (st : St) (res : (Int32 × St)) (hK43 : ∀ (v5 : Int64) (v7 : Int32) (st : St), K43 v5 v7 st = some res → At p l e (rmK 4) s m args below meth c D G ad (MQI D G ad below args s res) 8 st [(0, .ref (ad b)), (1, .ref (ad 1)), (2, .ref (ad 11)), (3, .ref (ad 18)), (4, .ref (ad b4)), (5, .long v5), (7, .int v7)] 43 []) (hf : fX1_pass_s43 n K43 b b4 v5 v7 st = some res) : At p l e (rmK 4) s m args below meth c D G ad (MQI D G ad below args s res) 8 st [(0, .ref (ad b)), (1, .ref (ad 1)), (2, .ref (ad 11)), (3, .ref (ad 18)), (4, .ref (ad b4)), (5, .long v5), (7, .int v7)] 43 [] := by
  obtain ⟨hx, hb, hml, hown, hts, hr, hlk, hK, had, hSt⟩ := id C
  intro H locs ls hl hP hS
  unfold fX1_pass_s43 at hf
  refine lv_iload hx hb dX1_pass_43 (lv_at hl 6 rfl) ?_
  refine lv_aload_n hx hb dX1_pass_45 rfl (lv_at hl 1 rfl) ?_
  refine g_getI hx hb hts inlX6 hown hK hP 1 ct_1 rfl 9 (by decide) (hts _ wm_17_18) rfl dX1_pass_46 ?_
  refine lv_icmp_ge (tgt := 70) hx hb dX1_pass_49 (by decide) (fun q => ?_) (fun q => ?_)
  · exact wX1_pass_s70 C n b b4 v5 ib ib4 st res (it hf q) H locs ls (lv_sub hl [0, 1, 2, 3, 5] rfl) hP hS
  · exact wX1_pass_s52 C n K43 b b4 v5 v7 ib ib4 st res hK43 (ie hf q) H locs ls (lv_sub hl [0, 1, 2, 3, 4, 5, 6] rfl) hP hS
def fX1_pass_L43 (n : Nat)  (b : Nat) (b4 : Nat) : Nat → Int64 → Int32 → St → Option (Int32 × St)
  | 0, _, _, _ => none
  | k + 1, v5, v7, st => fX1_pass_s43 n (fX1_pass_L43 n b b4 k) b b4 v5 v7 st
theorem wX1_pass_L43 (C : Cx p s m args meth c cX1_pass 8 wsL_law RX1 (some .int) D G ad) (n : Nat)  (b : Nat) (b4 : Nat) (ib : isFl b) (ib4 : ctab[b4]? = some (.inr (8, 0))) (res : (Int32 × St))  : ∀ (k : Nat) (v5 : Int64) (v7 : Int32)  (st : St), fX1_pass_L43 n b b4 k v5 v7 st = some res → At p l e (rmK 4) s m args below meth c D G ad (MQI D G ad below args s res) 8 st [(0, .ref (ad b)), (1, .ref (ad 1)), (2, .ref (ad 11)), (3, .ref (ad 18)), (4, .ref (ad b4)), (5, .long v5), (7, .int v7)] 43 [] := by
  intro k
  induction k with
  | zero => intro v5 v7  st h; exact absurd h (by intro q; cases q)
  | succ k ih => intro v5 v7  st h; exact wX1_pass_s43 C n (fX1_pass_L43 n b b4 k) b b4 v5 v7 ib ib4  st res ih h
def fX1_pass_s40 (n : Nat)  (b : Nat) (b4 : Nat) (v5 : Int64) (st : St) : Option (Int32 × St) := fX1_pass_L43 n b b4 n v5 0 st
set_option maxHeartbeats 4000000 in
set_option maxRecDepth 100000 in
theorem wX1_pass_s40 (C : Cx p s m args meth c cX1_pass 8 wsL_law RX1 (some .int) D G ad) (n : Nat)  (b : Nat) (b4 : Nat) (v5 : Int64) (ib : isFl b) (ib4 : ctab[b4]? = some (.inr (8, 0)))  (st : St) (res : (Int32 × St))  (hf : fX1_pass_s40 n  b b4 v5 st = some res) : At p l e (rmK 4) s m args below meth c D G ad (MQI D G ad below args s res) 8 st [(0, .ref (ad b)), (1, .ref (ad 1)), (2, .ref (ad 11)), (3, .ref (ad 18)), (4, .ref (ad b4)), (5, .long v5)] 40 [] := by
  obtain ⟨hx, hb, hml, hown, hts, hr, hlk, hK, had, hSt⟩ := id C
  intro H locs ls hl hP hS
  unfold fX1_pass_s40 at hf
  refine lv_iconst (v := 0) hx hb dX1_pass_40 (by decide) ?_
  refine lv_istore (lv' := [(7, .int 0), (0, .ref (ad b)), (1, .ref (ad 1)), (2, .ref (ad 11)), (3, .ref (ad 18)), (4, .ref (ad b4)), (5, .long v5)]) hx hb dX1_pass_41 hl (by decide) rfl (fun ls hl => ?_)
  exact wX1_pass_L43 C n b b4 ib ib4 res n v5 0 st hf H locs ls (lv_sub hl [1, 2, 3, 4, 5, 6, 0] rfl) hP hS
def fX1_pass_s34 (n : Nat) (K19 : Int64 → Int32 → St → Option (Int32 × St)) (b : Nat) (b4 : Nat) (v5 : Int64) (v7 : Int32) (st : St) : Option (Int32 × St) := K19 v5 (v7 + 1) st
set_option maxHeartbeats 4000000 in
set_option maxRecDepth 100000 in
theorem wX1_pass_s34 (C : Cx p s m args meth c cX1_pass 8 wsL_law RX1 (some .int) D G ad) (n : Nat) (K19 : Int64 → Int32 → St → Option (Int32 × St)) (b : Nat) (b4 : Nat) (v5 : Int64) (v7 : Int32) (ib : isFl b) (ib4 : ctab[b4]? = some (.inr (8, 0)))  (st : St) (res : (Int32 × St)) (hK19 : ∀ (v5 : Int64) (v7 : Int32) (st : St), K19 v5 v7 st = some res → At p l e (rmK 4) s m args below meth c D G ad (MQI D G ad below args s res) 8 st [(0, .ref (ad b)), (1, .ref (ad 1)), (2, .ref (ad 11)), (3, .ref (ad 18)), (4, .ref (ad b4)), (5, .long v5), (7, .int v7)] 19 []) (hf : fX1_pass_s34 n K19 b b4 v5 v7 st = some res) : At p l e (rmK 4) s m args below meth c D G ad (MQI D G ad below args s res) 8 st [(0, .ref (ad b)), (1, .ref (ad 1)), (2, .ref (ad 11)), (3, .ref (ad 18)), (4, .ref (ad b4)), (5, .long v5), (7, .int v7)] 34 [] := by
  obtain ⟨hx, hb, hml, hown, hts, hr, hlk, hK, had, hSt⟩ := id C
  intro H locs ls hl hP hS
  unfold fX1_pass_s34 at hf
  refine lv_iinc (v := v7 + 1) (lv' := [(7, .int (v7 + 1)), (0, .ref (ad b)), (1, .ref (ad 1)), (2, .ref (ad 11)), (3, .ref (ad 18)), (4, .ref (ad b4)), (5, .long v5)]) hx hb dX1_pass_34 hl (k := 6) rfl rfl (by decide) rfl (fun ls hl => ?_)
  refine lv_goto (tgt := 19) hx hb dX1_pass_37 (by decide) ?_
  exact hK19 v5 (v7 + 1)  st hf H locs ls (lv_sub hl [1, 2, 3, 4, 5, 6, 0] rfl) hP hS
def fX1_pass_s28 (n : Nat) (K19 : Int64 → Int32 → St → Option (Int32 × St)) (b : Nat) (b4 : Nat) (v5 : Int64) (v7 : Int32) (st : St) : Option (Int32 × St) := (fX1_arrive n b v7 st).bind (fun q => fX1_pass_s34 n K19 b b4 v5 v7 q.2)
set_option maxHeartbeats 4000000 in
set_option maxRecDepth 100000 in
theorem wX1_pass_s28 (C : Cx p s m args meth c cX1_pass 8 wsL_law RX1 (some .int) D G ad) (n : Nat) (K19 : Int64 → Int32 → St → Option (Int32 × St)) (b : Nat) (b4 : Nat) (v5 : Int64) (v7 : Int32) (ib : isFl b) (ib4 : ctab[b4]? = some (.inr (8, 0)))  (st : St) (res : (Int32 × St)) (hK19 : ∀ (v5 : Int64) (v7 : Int32) (st : St), K19 v5 v7 st = some res → At p l e (rmK 4) s m args below meth c D G ad (MQI D G ad below args s res) 8 st [(0, .ref (ad b)), (1, .ref (ad 1)), (2, .ref (ad 11)), (3, .ref (ad 18)), (4, .ref (ad b4)), (5, .long v5), (7, .int v7)] 19 []) (hf : fX1_pass_s28 n K19 b b4 v5 v7 st = some res) : At p l e (rmK 4) s m args below meth c D G ad (MQI D G ad below args s res) 8 st [(0, .ref (ad b)), (1, .ref (ad 1)), (2, .ref (ad 11)), (3, .ref (ad 18)), (4, .ref (ad b4)), (5, .long v5), (7, .int v7)] 28 [] := by
  obtain ⟨hx, hb, hml, hown, hts, hr, hlk, hK, had, hSt⟩ := id C
  intro H locs ls hl hP hS
  unfold fX1_pass_s28 at hf
  refine lv_aload_n hx hb dX1_pass_28 rfl (lv_at hl 0 rfl) ?_
  refine lv_iload hx hb dX1_pass_29 (lv_at hl 6 rfl) ?_
  obtain ⟨q, hq, hf⟩ := bd hf
  refine gcV_v (k := 1) (o := b) (As := [.int v7]) (rest := []) hx hb hml hown hts hK hSt hP hS hl.1 (goodV wm_17_22 wm_17_23 wm_18_0 wm_3_6 wm_18_1) okX1_arrive (fl_0 ib) rfl rfl (Nat.le_of_ble_eq_true rfl) (Nat.le_of_ble_eq_true rfl) rfl rfl (Nat.le_of_ble_eq_true rfl) dX1_pass_31 (kX1_arrive l D G ad had n b ib v7 st q hq) (fun H locs hP hS => ?_)
  exact wX1_pass_s34 C n K19 b b4 v5 v7 ib ib4 q.2 res hK19 hf H locs ls (lv_sub hl [0, 1, 2, 3, 4, 5, 6] rfl) hP hS
def fX1_pass_s19 (n : Nat) (K19 : Int64 → Int32 → St → Option (Int32 × St)) (b : Nat) (b4 : Nat) (v5 : Int64) (v7 : Int32) (st : St) : Option (Int32 × St) := if (st.1 1 9) ≤ v7 then fX1_pass_s40 n b b4 v5 st else fX1_pass_s28 n K19 b b4 v5 v7 st
set_option maxHeartbeats 4000000 in
set_option maxRecDepth 100000 in
theorem wX1_pass_s19 (C : Cx p s m args meth c cX1_pass 8 wsL_law RX1 (some .int) D G ad) (n : Nat) (K19 : Int64 → Int32 → St → Option (Int32 × St)) (b : Nat) (b4 : Nat) (v5 : Int64) (v7 : Int32) (ib : isFl b) (ib4 : ctab[b4]? = some (.inr (8, 0)))  (st : St) (res : (Int32 × St)) (hK19 : ∀ (v5 : Int64) (v7 : Int32) (st : St), K19 v5 v7 st = some res → At p l e (rmK 4) s m args below meth c D G ad (MQI D G ad below args s res) 8 st [(0, .ref (ad b)), (1, .ref (ad 1)), (2, .ref (ad 11)), (3, .ref (ad 18)), (4, .ref (ad b4)), (5, .long v5), (7, .int v7)] 19 []) (hf : fX1_pass_s19 n K19 b b4 v5 v7 st = some res) : At p l e (rmK 4) s m args below meth c D G ad (MQI D G ad below args s res) 8 st [(0, .ref (ad b)), (1, .ref (ad 1)), (2, .ref (ad 11)), (3, .ref (ad 18)), (4, .ref (ad b4)), (5, .long v5), (7, .int v7)] 19 [] := by
  obtain ⟨hx, hb, hml, hown, hts, hr, hlk, hK, had, hSt⟩ := id C
  intro H locs ls hl hP hS
  unfold fX1_pass_s19 at hf
  refine lv_iload hx hb dX1_pass_19 (lv_at hl 6 rfl) ?_
  refine lv_aload_n hx hb dX1_pass_21 rfl (lv_at hl 1 rfl) ?_
  refine g_getI hx hb hts inlX6 hown hK hP 1 ct_1 rfl 9 (by decide) (hts _ wm_17_18) rfl dX1_pass_22 ?_
  refine lv_icmp_ge (tgt := 40) hx hb dX1_pass_25 (by decide) (fun q => ?_) (fun q => ?_)
  · exact wX1_pass_s40 C n b b4 v5 ib ib4 st res (it hf q) H locs ls (lv_sub hl [0, 1, 2, 3, 4, 5] rfl) hP hS
  · exact wX1_pass_s28 C n K19 b b4 v5 v7 ib ib4 st res hK19 (ie hf q) H locs ls (lv_sub hl [0, 1, 2, 3, 4, 5, 6] rfl) hP hS
def fX1_pass_L19 (n : Nat)  (b : Nat) (b4 : Nat) : Nat → Int64 → Int32 → St → Option (Int32 × St)
  | 0, _, _, _ => none
  | k + 1, v5, v7, st => fX1_pass_s19 n (fX1_pass_L19 n b b4 k) b b4 v5 v7 st
theorem wX1_pass_L19 (C : Cx p s m args meth c cX1_pass 8 wsL_law RX1 (some .int) D G ad) (n : Nat)  (b : Nat) (b4 : Nat) (ib : isFl b) (ib4 : ctab[b4]? = some (.inr (8, 0))) (res : (Int32 × St))  : ∀ (k : Nat) (v5 : Int64) (v7 : Int32)  (st : St), fX1_pass_L19 n b b4 k v5 v7 st = some res → At p l e (rmK 4) s m args below meth c D G ad (MQI D G ad below args s res) 8 st [(0, .ref (ad b)), (1, .ref (ad 1)), (2, .ref (ad 11)), (3, .ref (ad 18)), (4, .ref (ad b4)), (5, .long v5), (7, .int v7)] 19 [] := by
  intro k
  induction k with
  | zero => intro v5 v7  st h; exact absurd h (by intro q; cases q)
  | succ k ih => intro v5 v7  st h; exact wX1_pass_s19 C n (fX1_pass_L19 n b b4 k) b b4 v5 v7 ib ib4  st res ih h
def fX1_pass_s10 (n : Nat)  (b : Nat) (b4 : Nat)  (st : St) : Option (Int32 × St) := fX1_pass_L19 n b b4 n (st.2 b 12) 0 st
set_option maxHeartbeats 4000000 in
set_option maxRecDepth 100000 in
theorem wX1_pass_s10 (C : Cx p s m args meth c cX1_pass 8 wsL_law RX1 (some .int) D G ad) (n : Nat)  (b : Nat) (b4 : Nat)  (ib : isFl b) (ib4 : ctab[b4]? = some (.inr (8, 0)))  (st : St) (res : (Int32 × St))  (hf : fX1_pass_s10 n  b b4  st = some res) : At p l e (rmK 4) s m args below meth c D G ad (MQI D G ad below args s res) 8 st [(0, .ref (ad b)), (1, .ref (ad 1)), (2, .ref (ad 11)), (3, .ref (ad 18)), (4, .ref (ad b4))] 10 [] := by
  obtain ⟨hx, hb, hml, hown, hts, hr, hlk, hK, had, hSt⟩ := id C
  intro H locs ls hl hP hS
  unfold fX1_pass_s10 at hf
  refine lv_aload_n hx hb dX1_pass_10 rfl (lv_at hl 0 rfl) ?_
  refine g_getJ hx hb hts inlX1 hown hK hP b (fl_0 ib) rfl 12 (by decide) (hts _ wm_17_17) rfl dX1_pass_11 ?_
  refine lv_lstore (lv' := [(5, .long (st.2 b 12)), (0, .ref (ad b)), (1, .ref (ad 1)), (2, .ref (ad 11)), (3, .ref (ad 18)), (4, .ref (ad b4))]) hx hb dX1_pass_14 hl (by decide) rfl (fun ls hl => ?_)
  refine lv_iconst (v := 0) hx hb dX1_pass_16 (by decide) ?_
  refine lv_istore (lv' := [(7, .int 0), (5, .long (st.2 b 12)), (0, .ref (ad b)), (1, .ref (ad 1)), (2, .ref (ad 11)), (3, .ref (ad 18)), (4, .ref (ad b4))]) hx hb dX1_pass_17 hl (by decide) rfl (fun ls hl => ?_)
  exact wX1_pass_L19 C n b b4 ib ib4 res n (st.2 b 12) 0 st hf H locs ls (lv_sub hl [2, 3, 4, 5, 6, 1, 0] rfl) hP hS
def fX1_pass_s0 (n : Nat)  (b : Nat) (b4 : Nat)  (st : St) : Option (Int32 × St) := fX1_pass_s10 n b b4 (setI st b 10 ((st.1 b 10) + 1))
set_option maxHeartbeats 4000000 in
set_option maxRecDepth 100000 in
theorem wX1_pass_s0 (C : Cx p s m args meth c cX1_pass 8 wsL_law RX1 (some .int) D G ad) (n : Nat)  (b : Nat) (b4 : Nat)  (ib : isFl b) (ib4 : ctab[b4]? = some (.inr (8, 0)))  (st : St) (res : (Int32 × St))  (hf : fX1_pass_s0 n  b b4  st = some res) : At p l e (rmK 4) s m args below meth c D G ad (MQI D G ad below args s res) 8 st [(0, .ref (ad b)), (1, .ref (ad 1)), (2, .ref (ad 11)), (3, .ref (ad 18)), (4, .ref (ad b4))] 0 [] := by
  obtain ⟨hx, hb, hml, hown, hts, hr, hlk, hK, had, hSt⟩ := id C
  intro H locs ls hl hP hS
  unfold fX1_pass_s0 at hf
  refine lv_aload_n hx hb dX1_pass_0 rfl (lv_at hl 0 rfl) ?_
  refine lv_dup hx hb dX1_pass_1 rfl ?_
  refine g_getI hx hb hts inlX1 hown hK hP b (fl_0 ib) rfl 10 (by decide) (hts _ wm_13_12) rfl dX1_pass_2 ?_
  refine lv_iconst (v := 1) hx hb dX1_pass_5 (by decide) ?_
  refine lv_iadd hx hb dX1_pass_6 ?_
  refine g_putI hx hb hts inlX1 tyX1_ok nmX1 hown hK had hP hS b (fl_0 ib) rfl 10 (by decide) (hts _ wm_13_12) rfl rfl rfl rfl rfl dX1_pass_7 (fun H locs hP hS => ?_)
  exact wX1_pass_s10 C n b b4 ib ib4 (setI st b 10 ((st.1 b 10) + 1)) res hf H locs ls (lv_sub hl [0, 1, 2, 3, 4] rfl) hP hS
def fX1_pass (n : Nat) (b : Nat) (b4 : Nat)  (st : St) : Option (Int32 × St) := fX1_pass_s0 n b b4 st
theorem okX1_pass : okY yX1_pass RX1 4 := by unfold okY; decide +kernel
end
set_option maxRecDepth 100000 in
theorem kX1_pass (l : Launch) (D : va_G) (G : G3) (ad : Nat → Nat) (had : Adr ad) (n : Nat) (b : Nat) (b4 : Nat) (ib : isFl b) (ib4 : ctab[b4]? = some (.inr (8, 0)))  (st : St) (res : (Int32 × St)) (hf : fX1_pass n b b4  st = some res) {sz : Nat} : CtI l yX1_pass (wsU yX1_pass cX1_pass 8 (some .int)) (rmK 4) D G ad sz [.ref (ad b), .ref (ad 1), .ref (ad 11), .ref (ad 18), .ref (ad b4)] st res := by
  refine Met.ofW (cc := cX1_pass) (maxL := 8) (ret := (some .int)) (by decide) rfl ?_
  intro p e s m args below meth c s₁ B hml hv
  obtain ⟨rfl, hsz, hP, hK, hSt⟩ := hv
  have hts := atoms_spec (ws := wsU yX1_pass cX1_pass 8 (some .int)) B.pre
  have C : Cx p s m _ meth c cX1_pass 8 wsL_law RX1 (some .int) D G ad := ⟨B.exec, B.bytes, hml, findClass_of_methodNamed B.named, fun w h => hts w (List.mem_cons_of_mem _ h), B.returns, B.notSynchronized, hK, had, hSt⟩
  subst hsz
  have hl := lv_entry ([.ref (ad b), .ref (ad 1), .ref (ad 11), .ref (ad 18), .ref (ad b4)]) (n := 8) (Nat.le_of_ble_eq_true rfl)
  rw [lg_entry_eq]
  generalize (lg_sl ([.ref (ad b), .ref (ad 1), .ref (ad 11), .ref (ad 18), .ref (ad b4)]) ++ List.replicate (8 - (lg_sl ([.ref (ad b), .ref (ad 1), .ref (ad 11), .ref (ad 18), .ref (ad b4)])).length) Slot.unset).toArray = ls at hl ⊢
  exact wX1_pass_s0 C n b b4  ib ib4  st res hf s.heap [] ls (lv_sub hl [0, 1, 2, 3, 4] rfl) hP va_S.rf
section
variable {p : Program} {l : Launch} {e : Env} {s : State} {m : MethodId} {args : Array Value} {below : List Frame} {meth : Method} {c : Code} {D : va_G} {G : G3} {ad : Nat → Nat}
def fX1_total_s39 (n : Nat)  (b : Nat) (b1 : Nat) (v2 : Int64) (st : St) : Option (Int64 × St) := some (v2, st)
set_option maxHeartbeats 4000000 in
set_option maxRecDepth 100000 in
theorem wX1_total_s39 (C : Cx p s m args meth c cX1_total 8 wsL_law RX1 (some .long) D G ad) (n : Nat)  (b : Nat) (b1 : Nat) (v2 : Int64) (ib : isFl b) (ib1 : ctab[b1]? = some (.inr (8, 0)))  (st : St) (res : (Int64 × St))  (hf : fX1_total_s39 n  b b1 v2 st = some res) : At p l e (rmK 0) s m args below meth c D G ad (MQJ D G ad below args s res) 8 st [(2, .long v2)] 39 [] := by
  obtain ⟨hx, hb, hml, hown, hts, hr, hlk, hK, had, hSt⟩ := id C
  intro H locs ls hl hP hS
  unfold fX1_total_s39 at hf
  refine lv_lload_n hx hb dX1_total_39 rfl (lv_at hl 0 rfl) ?_
  exact g_lret hx hb hr hlk hP hS dX1_total_40 hf
def fX1_total_s20 (n : Nat) (K13 : Int64 → Int32 → Int32 → St → Option (Int64 × St)) (b : Nat) (b1 : Nat) (v2 : Int64) (v5 : Int32) (v6 : Int32) (st : St) : Option (Int64 × St) := if inb v6 8 = true then (K13 (v2 + ((st.1 b1 v6.toNatClampNeg).toInt64)) v5 (v6 + 1) st) else none
set_option maxHeartbeats 4000000 in
set_option maxRecDepth 100000 in
theorem wX1_total_s20 (C : Cx p s m args meth c cX1_total 8 wsL_law RX1 (some .long) D G ad) (n : Nat) (K13 : Int64 → Int32 → Int32 → St → Option (Int64 × St)) (b : Nat) (b1 : Nat) (v2 : Int64) (v5 : Int32) (v6 : Int32) (ib : isFl b) (ib1 : ctab[b1]? = some (.inr (8, 0)))  (st : St) (res : (Int64 × St)) (hK13 : ∀ (v2 : Int64) (v5 : Int32) (v6 : Int32) (st : St), K13 v2 v5 v6 st = some res → At p l e (rmK 0) s m args below meth c D G ad (MQJ D G ad below args s res) 8 st [(2, .long v2), (4, .ref (ad b1)), (5, .int v5), (6, .int v6)] 13 []) (hf : fX1_total_s20 n K13 b b1 v2 v5 v6 st = some res) : At p l e (rmK 0) s m args below meth c D G ad (MQJ D G ad below args s res) 8 st [(2, .long v2), (4, .ref (ad b1)), (5, .int v5), (6, .int v6)] 20 [] := by
  obtain ⟨hx, hb, hml, hown, hts, hr, hlk, hK, had, hSt⟩ := id C
  intro H locs ls hl hP hS
  unfold fX1_total_s20 at hf
  refine lv_aload hx hb dX1_total_20 (lv_at hl 1 rfl) ?_
  refine lv_iload hx hb dX1_total_22 (lv_at hl 3 rfl) ?_
  obtain ⟨g1, hf⟩ := gd hf
  refine g_iald hx hb hK hP b1 ib1 g1 dX1_total_24 ?_
  refine lv_istore (lv' := [(7, .int (st.1 b1 v6.toNatClampNeg)), (2, .long v2), (4, .ref (ad b1)), (5, .int v5), (6, .int v6)]) hx hb dX1_total_25 hl (by decide) rfl (fun ls hl => ?_)
  refine lv_lload_n hx hb dX1_total_27 rfl (lv_at hl 1 rfl) ?_
  refine lv_iload hx hb dX1_total_28 (lv_at hl 0 rfl) ?_
  refine lv_i2l hx hb dX1_total_30 rfl ?_
  refine lv_ladd hx hb dX1_total_31 ?_
  refine lv_lstore_n (lv' := [(2, .long (v2 + ((st.1 b1 v6.toNatClampNeg).toInt64))), (7, .int (st.1 b1 v6.toNatClampNeg)), (4, .ref (ad b1)), (5, .int v5), (6, .int v6)]) hx hb dX1_total_32 rfl hl (by decide) rfl (fun ls hl => ?_)
  refine lv_iinc (v := v6 + 1) (lv' := [(6, .int (v6 + 1)), (2, .long (v2 + ((st.1 b1 v6.toNatClampNeg).toInt64))), (7, .int (st.1 b1 v6.toNatClampNeg)), (4, .ref (ad b1)), (5, .int v5)]) hx hb dX1_total_33 hl (k := 4) rfl rfl (by decide) rfl (fun ls hl => ?_)
  refine lv_goto (tgt := 13) hx hb dX1_total_36 (by decide) ?_
  exact hK13 (v2 + ((st.1 b1 v6.toNatClampNeg).toInt64)) v5 (v6 + 1)  st hf H locs ls (lv_sub hl [1, 3, 4, 0] rfl) hP hS
def fX1_total_s13 (n : Nat) (K13 : Int64 → Int32 → Int32 → St → Option (Int64 × St)) (b : Nat) (b1 : Nat) (v2 : Int64) (v5 : Int32) (v6 : Int32) (st : St) : Option (Int64 × St) := if v5 ≤ v6 then fX1_total_s39 n b b1 v2 st else fX1_total_s20 n K13 b b1 v2 v5 v6 st
set_option maxHeartbeats 4000000 in
set_option maxRecDepth 100000 in
theorem wX1_total_s13 (C : Cx p s m args meth c cX1_total 8 wsL_law RX1 (some .long) D G ad) (n : Nat) (K13 : Int64 → Int32 → Int32 → St → Option (Int64 × St)) (b : Nat) (b1 : Nat) (v2 : Int64) (v5 : Int32) (v6 : Int32) (ib : isFl b) (ib1 : ctab[b1]? = some (.inr (8, 0)))  (st : St) (res : (Int64 × St)) (hK13 : ∀ (v2 : Int64) (v5 : Int32) (v6 : Int32) (st : St), K13 v2 v5 v6 st = some res → At p l e (rmK 0) s m args below meth c D G ad (MQJ D G ad below args s res) 8 st [(2, .long v2), (4, .ref (ad b1)), (5, .int v5), (6, .int v6)] 13 []) (hf : fX1_total_s13 n K13 b b1 v2 v5 v6 st = some res) : At p l e (rmK 0) s m args below meth c D G ad (MQJ D G ad below args s res) 8 st [(2, .long v2), (4, .ref (ad b1)), (5, .int v5), (6, .int v6)] 13 [] := by
  obtain ⟨hx, hb, hml, hown, hts, hr, hlk, hK, had, hSt⟩ := id C
  intro H locs ls hl hP hS
  unfold fX1_total_s13 at hf
  refine lv_iload hx hb dX1_total_13 (lv_at hl 3 rfl) ?_
  refine lv_iload hx hb dX1_total_15 (lv_at hl 2 rfl) ?_
  refine lv_icmp_ge (tgt := 39) hx hb dX1_total_17 (by decide) (fun q => ?_) (fun q => ?_)
  · exact wX1_total_s39 C n b b1 v2 ib ib1 st res (it hf q) H locs ls (lv_sub hl [0] rfl) hP hS
  · exact wX1_total_s20 C n K13 b b1 v2 v5 v6 ib ib1 st res hK13 (ie hf q) H locs ls (lv_sub hl [0, 1, 2, 3] rfl) hP hS
def fX1_total_L13 (n : Nat)  (b : Nat) (b1 : Nat) : Nat → Int64 → Int32 → Int32 → St → Option (Int64 × St)
  | 0, _, _, _, _ => none
  | k + 1, v2, v5, v6, st => fX1_total_s13 n (fX1_total_L13 n b b1 k) b b1 v2 v5 v6 st
theorem wX1_total_L13 (C : Cx p s m args meth c cX1_total 8 wsL_law RX1 (some .long) D G ad) (n : Nat)  (b : Nat) (b1 : Nat) (ib : isFl b) (ib1 : ctab[b1]? = some (.inr (8, 0))) (res : (Int64 × St))  : ∀ (k : Nat) (v2 : Int64) (v5 : Int32) (v6 : Int32)  (st : St), fX1_total_L13 n b b1 k v2 v5 v6 st = some res → At p l e (rmK 0) s m args below meth c D G ad (MQJ D G ad below args s res) 8 st [(2, .long v2), (4, .ref (ad b1)), (5, .int v5), (6, .int v6)] 13 [] := by
  intro k
  induction k with
  | zero => intro v2 v5 v6  st h; exact absurd h (by intro q; cases q)
  | succ k ih => intro v2 v5 v6  st h; exact wX1_total_s13 C n (fX1_total_L13 n b b1 k) b b1 v2 v5 v6 ib ib1  st res ih h
def fX1_total_s0 (n : Nat)  (b : Nat) (b1 : Nat)  (st : St) : Option (Int64 × St) := fX1_total_L13 n b b1 n 0 8 0 st
set_option maxHeartbeats 4000000 in
set_option maxRecDepth 100000 in
theorem wX1_total_s0 (C : Cx p s m args meth c cX1_total 8 wsL_law RX1 (some .long) D G ad) (n : Nat)  (b : Nat) (b1 : Nat)  (ib : isFl b) (ib1 : ctab[b1]? = some (.inr (8, 0)))  (st : St) (res : (Int64 × St))  (hf : fX1_total_s0 n  b b1  st = some res) : At p l e (rmK 0) s m args below meth c D G ad (MQJ D G ad below args s res) 8 st [(1, .ref (ad b1))] 0 [] := by
  obtain ⟨hx, hb, hml, hown, hts, hr, hlk, hK, had, hSt⟩ := id C
  intro H locs ls hl hP hS
  unfold fX1_total_s0 at hf
  refine lv_lconst (v := 0) hx hb dX1_total_0 (by decide) ?_
  refine lv_lstore_n (lv' := [(2, .long 0), (1, .ref (ad b1))]) hx hb dX1_total_1 rfl hl (by decide) rfl (fun ls hl => ?_)
  refine lv_aload_n hx hb dX1_total_2 rfl (lv_at hl 1 rfl) ?_
  refine lv_astore (lv' := [(4, .ref (ad b1)), (2, .long 0), (1, .ref (ad b1))]) hx hb dX1_total_3 hl (by decide) rfl (fun ls hl => ?_)
  refine lv_aload hx hb dX1_total_5 (lv_at hl 0 rfl) ?_
  refine g_alen hx hb hK hP b1 ib1 dX1_total_7 ?_
  refine lv_topc (v := 8) (by decide) ?_
  refine lv_istore (lv' := [(5, .int 8), (4, .ref (ad b1)), (2, .long 0), (1, .ref (ad b1))]) hx hb dX1_total_8 hl (by decide) rfl (fun ls hl => ?_)
  refine lv_iconst (v := 0) hx hb dX1_total_10 (by decide) ?_
  refine lv_istore (lv' := [(6, .int 0), (5, .int 8), (4, .ref (ad b1)), (2, .long 0), (1, .ref (ad b1))]) hx hb dX1_total_11 hl (by decide) rfl (fun ls hl => ?_)
  exact wX1_total_L13 C n b b1 ib ib1 res n 0 8 0 st hf H locs ls (lv_sub hl [3, 2, 1, 0] rfl) hP hS
def fX1_total (n : Nat) (b : Nat) (b1 : Nat)  (st : St) : Option (Int64 × St) := fX1_total_s0 n b b1 st
theorem okX1_total : okY yX1_total RX1 1 := by unfold okY; decide +kernel
end
set_option maxRecDepth 100000 in
theorem kX1_total (l : Launch) (D : va_G) (G : G3) (ad : Nat → Nat) (had : Adr ad) (n : Nat) (b : Nat) (b1 : Nat) (ib : isFl b) (ib1 : ctab[b1]? = some (.inr (8, 0)))  (st : St) (res : (Int64 × St)) (hf : fX1_total n b b1  st = some res) {sz : Nat} : CtJ l yX1_total (wsU yX1_total cX1_total 8 (some .long)) (rmK 0) D G ad sz [.ref (ad b), .ref (ad b1)] st res := by
  refine Met.ofW (cc := cX1_total) (maxL := 8) (ret := (some .long)) (by decide) rfl ?_
  intro p e s m args below meth c s₁ B hml hv
  obtain ⟨rfl, hsz, hP, hK, hSt⟩ := hv
  have hts := atoms_spec (ws := wsU yX1_total cX1_total 8 (some .long)) B.pre
  have C : Cx p s m _ meth c cX1_total 8 wsL_law RX1 (some .long) D G ad := ⟨B.exec, B.bytes, hml, findClass_of_methodNamed B.named, fun w h => hts w (List.mem_cons_of_mem _ h), B.returns, B.notSynchronized, hK, had, hSt⟩
  subst hsz
  have hl := lv_entry ([.ref (ad b), .ref (ad b1)]) (n := 8) (Nat.le_of_ble_eq_true rfl)
  rw [lg_entry_eq]
  generalize (lg_sl ([.ref (ad b), .ref (ad b1)]) ++ List.replicate (8 - (lg_sl ([.ref (ad b), .ref (ad b1)])).length) Slot.unset).toArray = ls at hl ⊢
  exact wX1_total_s0 C n b b1  ib ib1  st res hf s.heap [] ls (lv_sub hl [1] rfl) hP va_S.rf
section
variable {p : Program} {l : Launch} {e : Env} {s : State} {m : MethodId} {args : Array Value} {below : List Frame} {meth : Method} {c : Code} {D : va_G} {G : G3} {ad : Nat → Nat}
def fX1_costOfAll_s38 (n : Nat)  (b : Nat) (v1 : Int64) (st : St) : Option (Int64 × St) := some (v1, st)
set_option maxHeartbeats 4000000 in
set_option maxRecDepth 100000 in
theorem wX1_costOfAll_s38 (C : Cx p s m args meth c cX1_costOfAll 8 wsL_law RX1 (some .long) D G ad) (n : Nat)  (b : Nat) (v1 : Int64) (ib : isFl b)  (st : St) (res : (Int64 × St))  (hf : fX1_costOfAll_s38 n  b v1 st = some res) : At p l e (rmK 0) s m args below meth c D G ad (MQJ D G ad below args s res) 8 st [(1, .long v1)] 38 [] := by
  obtain ⟨hx, hb, hml, hown, hts, hr, hlk, hK, had, hSt⟩ := id C
  intro H locs ls hl hP hS
  unfold fX1_costOfAll_s38 at hf
  refine lv_lload_n hx hb dX1_costOfAll_38 rfl (lv_at hl 0 rfl) ?_
  exact g_lret hx hb hr hlk hP hS dX1_costOfAll_39 hf
def fX1_costOfAll_s21 (n : Nat) (K14 : Int64 → Int32 → Int32 → St → Option (Int64 × St)) (b : Nat) (v1 : Int64) (v4 : Int32) (v5 : Int32) (st : St) : Option (Int64 × St) := if inb v5 8 = true then (K14 (v1 + (st.2 (b + 10) v5.toNatClampNeg)) v4 (v5 + 1) st) else none
set_option maxHeartbeats 4000000 in
set_option maxRecDepth 100000 in
theorem wX1_costOfAll_s21 (C : Cx p s m args meth c cX1_costOfAll 8 wsL_law RX1 (some .long) D G ad) (n : Nat) (K14 : Int64 → Int32 → Int32 → St → Option (Int64 × St)) (b : Nat) (v1 : Int64) (v4 : Int32) (v5 : Int32) (ib : isFl b)  (st : St) (res : (Int64 × St)) (hK14 : ∀ (v1 : Int64) (v4 : Int32) (v5 : Int32) (st : St), K14 v1 v4 v5 st = some res → At p l e (rmK 0) s m args below meth c D G ad (MQJ D G ad below args s res) 8 st [(1, .long v1), (3, .ref (ad (b + 10))), (4, .int v4), (5, .int v5)] 14 []) (hf : fX1_costOfAll_s21 n K14 b v1 v4 v5 st = some res) : At p l e (rmK 0) s m args below meth c D G ad (MQJ D G ad below args s res) 8 st [(1, .long v1), (3, .ref (ad (b + 10))), (4, .int v4), (5, .int v5)] 21 [] := by
  obtain ⟨hx, hb, hml, hown, hts, hr, hlk, hK, had, hSt⟩ := id C
  intro H locs ls hl hP hS
  unfold fX1_costOfAll_s21 at hf
  refine lv_aload_n hx hb dX1_costOfAll_21 rfl (lv_at hl 1 rfl) ?_
  refine lv_iload hx hb dX1_costOfAll_22 (lv_at hl 3 rfl) ?_
  obtain ⟨g1, hf⟩ := gd hf
  refine g_lald hx hb hK hP (b + 10) (fl_10 ib) g1 dX1_costOfAll_24 ?_
  refine lv_lstore (lv' := [(6, .long (st.2 (b + 10) v5.toNatClampNeg)), (1, .long v1), (3, .ref (ad (b + 10))), (4, .int v4), (5, .int v5)]) hx hb dX1_costOfAll_25 hl (by decide) rfl (fun ls hl => ?_)
  refine lv_lload_n hx hb dX1_costOfAll_27 rfl (lv_at hl 1 rfl) ?_
  refine lv_lload hx hb dX1_costOfAll_28 (lv_at hl 0 rfl) ?_
  refine lv_ladd hx hb dX1_costOfAll_30 ?_
  refine lv_lstore_n (lv' := [(1, .long (v1 + (st.2 (b + 10) v5.toNatClampNeg))), (6, .long (st.2 (b + 10) v5.toNatClampNeg)), (3, .ref (ad (b + 10))), (4, .int v4), (5, .int v5)]) hx hb dX1_costOfAll_31 rfl hl (by decide) rfl (fun ls hl => ?_)
  refine lv_iinc (v := v5 + 1) (lv' := [(5, .int (v5 + 1)), (1, .long (v1 + (st.2 (b + 10) v5.toNatClampNeg))), (6, .long (st.2 (b + 10) v5.toNatClampNeg)), (3, .ref (ad (b + 10))), (4, .int v4)]) hx hb dX1_costOfAll_32 hl (k := 4) rfl rfl (by decide) rfl (fun ls hl => ?_)
  refine lv_goto (tgt := 14) hx hb dX1_costOfAll_35 (by decide) ?_
  exact hK14 (v1 + (st.2 (b + 10) v5.toNatClampNeg)) v4 (v5 + 1)  st hf H locs ls (lv_sub hl [1, 3, 4, 0] rfl) hP hS
def fX1_costOfAll_s14 (n : Nat) (K14 : Int64 → Int32 → Int32 → St → Option (Int64 × St)) (b : Nat) (v1 : Int64) (v4 : Int32) (v5 : Int32) (st : St) : Option (Int64 × St) := if v4 ≤ v5 then fX1_costOfAll_s38 n b v1 st else fX1_costOfAll_s21 n K14 b v1 v4 v5 st
set_option maxHeartbeats 4000000 in
set_option maxRecDepth 100000 in
theorem wX1_costOfAll_s14 (C : Cx p s m args meth c cX1_costOfAll 8 wsL_law RX1 (some .long) D G ad) (n : Nat) (K14 : Int64 → Int32 → Int32 → St → Option (Int64 × St)) (b : Nat) (v1 : Int64) (v4 : Int32) (v5 : Int32) (ib : isFl b)  (st : St) (res : (Int64 × St)) (hK14 : ∀ (v1 : Int64) (v4 : Int32) (v5 : Int32) (st : St), K14 v1 v4 v5 st = some res → At p l e (rmK 0) s m args below meth c D G ad (MQJ D G ad below args s res) 8 st [(1, .long v1), (3, .ref (ad (b + 10))), (4, .int v4), (5, .int v5)] 14 []) (hf : fX1_costOfAll_s14 n K14 b v1 v4 v5 st = some res) : At p l e (rmK 0) s m args below meth c D G ad (MQJ D G ad below args s res) 8 st [(1, .long v1), (3, .ref (ad (b + 10))), (4, .int v4), (5, .int v5)] 14 [] := by
  obtain ⟨hx, hb, hml, hown, hts, hr, hlk, hK, had, hSt⟩ := id C
  intro H locs ls hl hP hS
  unfold fX1_costOfAll_s14 at hf
  refine lv_iload hx hb dX1_costOfAll_14 (lv_at hl 3 rfl) ?_
  refine lv_iload hx hb dX1_costOfAll_16 (lv_at hl 2 rfl) ?_
  refine lv_icmp_ge (tgt := 38) hx hb dX1_costOfAll_18 (by decide) (fun q => ?_) (fun q => ?_)
  · exact wX1_costOfAll_s38 C n b v1 ib st res (it hf q) H locs ls (lv_sub hl [0] rfl) hP hS
  · exact wX1_costOfAll_s21 C n K14 b v1 v4 v5 ib st res hK14 (ie hf q) H locs ls (lv_sub hl [0, 1, 2, 3] rfl) hP hS
def fX1_costOfAll_L14 (n : Nat)  (b : Nat) : Nat → Int64 → Int32 → Int32 → St → Option (Int64 × St)
  | 0, _, _, _, _ => none
  | k + 1, v1, v4, v5, st => fX1_costOfAll_s14 n (fX1_costOfAll_L14 n b k) b v1 v4 v5 st
theorem wX1_costOfAll_L14 (C : Cx p s m args meth c cX1_costOfAll 8 wsL_law RX1 (some .long) D G ad) (n : Nat)  (b : Nat) (ib : isFl b) (res : (Int64 × St))  : ∀ (k : Nat) (v1 : Int64) (v4 : Int32) (v5 : Int32)  (st : St), fX1_costOfAll_L14 n b k v1 v4 v5 st = some res → At p l e (rmK 0) s m args below meth c D G ad (MQJ D G ad below args s res) 8 st [(1, .long v1), (3, .ref (ad (b + 10))), (4, .int v4), (5, .int v5)] 14 [] := by
  intro k
  induction k with
  | zero => intro v1 v4 v5  st h; exact absurd h (by intro q; cases q)
  | succ k ih => intro v1 v4 v5  st h; exact wX1_costOfAll_s14 C n (fX1_costOfAll_L14 n b k) b v1 v4 v5 ib  st res ih h
def fX1_costOfAll_s0 (n : Nat)  (b : Nat)  (st : St) : Option (Int64 × St) := fX1_costOfAll_L14 n b n 0 8 0 st
set_option maxHeartbeats 4000000 in
set_option maxRecDepth 100000 in
theorem wX1_costOfAll_s0 (C : Cx p s m args meth c cX1_costOfAll 8 wsL_law RX1 (some .long) D G ad) (n : Nat)  (b : Nat)  (ib : isFl b)  (st : St) (res : (Int64 × St))  (hf : fX1_costOfAll_s0 n  b  st = some res) : At p l e (rmK 0) s m args below meth c D G ad (MQJ D G ad below args s res) 8 st [(0, .ref (ad b))] 0 [] := by
  obtain ⟨hx, hb, hml, hown, hts, hr, hlk, hK, had, hSt⟩ := id C
  intro H locs ls hl hP hS
  unfold fX1_costOfAll_s0 at hf
  refine lv_lconst (v := 0) hx hb dX1_costOfAll_0 (by decide) ?_
  refine lv_lstore_n (lv' := [(1, .long 0), (0, .ref (ad b))]) hx hb dX1_costOfAll_1 rfl hl (by decide) rfl (fun ls hl => ?_)
  refine lv_aload_n hx hb dX1_costOfAll_2 rfl (lv_at hl 1 rfl) ?_
  refine g_getR hx hb hts inlX1 hown hK hP b (fl_0 ib) rfl 9 (by decide) (hts _ wm_6_21) rfl dX1_costOfAll_3 ?_
  refine lv_astore_n (lv' := [(3, .ref (ad (b + 10))), (1, .long 0), (0, .ref (ad b))]) hx hb dX1_costOfAll_6 rfl hl (by decide) rfl (fun ls hl => ?_)
  refine lv_aload_n hx hb dX1_costOfAll_7 rfl (lv_at hl 0 rfl) ?_
  refine g_alen hx hb hK hP (b + 10) (fl_10 ib) dX1_costOfAll_8 ?_
  refine lv_topc (v := 8) (by decide) ?_
  refine lv_istore (lv' := [(4, .int 8), (3, .ref (ad (b + 10))), (1, .long 0), (0, .ref (ad b))]) hx hb dX1_costOfAll_9 hl (by decide) rfl (fun ls hl => ?_)
  refine lv_iconst (v := 0) hx hb dX1_costOfAll_11 (by decide) ?_
  refine lv_istore (lv' := [(5, .int 0), (4, .int 8), (3, .ref (ad (b + 10))), (1, .long 0), (0, .ref (ad b))]) hx hb dX1_costOfAll_12 hl (by decide) rfl (fun ls hl => ?_)
  exact wX1_costOfAll_L14 C n b ib res n 0 8 0 st hf H locs ls (lv_sub hl [3, 2, 1, 0] rfl) hP hS
def fX1_costOfAll (n : Nat) (b : Nat)  (st : St) : Option (Int64 × St) := fX1_costOfAll_s0 n b st
theorem okX1_costOfAll : okY yX1_costOfAll RX1 0 := by unfold okY; decide +kernel
end
set_option maxRecDepth 100000 in
theorem kX1_costOfAll (l : Launch) (D : va_G) (G : G3) (ad : Nat → Nat) (had : Adr ad) (n : Nat) (b : Nat) (ib : isFl b)  (st : St) (res : (Int64 × St)) (hf : fX1_costOfAll n b  st = some res) {sz : Nat} : CtJ l yX1_costOfAll (wsU yX1_costOfAll cX1_costOfAll 8 (some .long)) (rmK 0) D G ad sz [.ref (ad b)] st res := by
  refine Met.ofW (cc := cX1_costOfAll) (maxL := 8) (ret := (some .long)) (by decide) rfl ?_
  intro p e s m args below meth c s₁ B hml hv
  obtain ⟨rfl, hsz, hP, hK, hSt⟩ := hv
  have hts := atoms_spec (ws := wsU yX1_costOfAll cX1_costOfAll 8 (some .long)) B.pre
  have C : Cx p s m _ meth c cX1_costOfAll 8 wsL_law RX1 (some .long) D G ad := ⟨B.exec, B.bytes, hml, findClass_of_methodNamed B.named, fun w h => hts w (List.mem_cons_of_mem _ h), B.returns, B.notSynchronized, hK, had, hSt⟩
  subst hsz
  have hl := lv_entry ([.ref (ad b)]) (n := 8) (Nat.le_of_ble_eq_true rfl)
  rw [lg_entry_eq]
  generalize (lg_sl ([.ref (ad b)]) ++ List.replicate (8 - (lg_sl ([.ref (ad b)])).length) Slot.unset).toArray = ls at hl ⊢
  exact wX1_costOfAll_s0 C n b  ib  st res hf s.heap [] ls (lv_sub hl [0] rfl) hP va_S.rf
