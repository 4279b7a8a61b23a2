theorem wm_2_11 : Cond.initialized RX4 ∈ wsL_law := in_r2 _ (mm_at 11 rfl)
theorem wm_5_2 : Cond.fieldLink RX4 10 "OrderEcho$Line" "t" "LOrderEcho$Fraction;" ∈ wsL_law := in_r5 _ (mm_at 2 rfl)
theorem wm_5_3 : Cond.fieldLink RX4 16 "OrderEcho$Line" "a" "LOrderEcho$Fraction;" ∈ wsL_law := in_r5 _ (mm_at 3 rfl)
theorem wm_5_4 : Cond.fieldLink RX4 19 "OrderEcho$Line" "m" "LOrderEcho$Fraction;" ∈ wsL_law := in_r5 _ (mm_at 4 rfl)
theorem wm_5_5 : Cond.fieldLink RX4 22 "OrderEcho$Line" "one" "LOrderEcho$Fraction;" ∈ wsL_law := in_r5 _ (mm_at 5 rfl)
theorem wm_5_6 : Cond.fieldLink RX4 25 "OrderEcho$Line" "d" "LOrderEcho$Fraction;" ∈ wsL_law := in_r5 _ (mm_at 6 rfl)
theorem wm_5_7 : Cond.fieldLink RX4 28 "OrderEcho$Line" "f" "LOrderEcho$Fraction;" ∈ wsL_law := in_r5 _ (mm_at 7 rfl)
theorem wm_5_8 : Cond.fieldLink RX4 31 "OrderEcho$Line" "p" "LOrderEcho$Fraction;" ∈ wsL_law := in_r5 _ (mm_at 8 rfl)
theorem wm_5_9 : Cond.fieldLink RX4 34 "OrderEcho$Line" "o" "LOrderEcho$Fraction;" ∈ wsL_law := in_r5 _ (mm_at 9 rfl)
theorem wm_5_10 : Cond.fieldLink RX4 37 "OrderEcho$Line" "part" "LOrderEcho$Fraction;" ∈ wsL_law := in_r5 _ (mm_at 10 rfl)
theorem wm_5_11 : Cond.fieldLink RX4 40 "OrderEcho$Line" "coefficient" "LOrderEcho$Fraction;" ∈ wsL_law := in_r5 _ (mm_at 11 rfl)
theorem wm_5_12 : Cond.fieldLink RX4 43 "OrderEcho$Line" "sum" "LOrderEcho$Fraction;" ∈ wsL_law := in_r5 _ (mm_at 12 rfl)
theorem wm_5_13 : Cond.fieldLink RX4 46 "OrderEcho$Fraction" "above" "J" ∈ wsL_law := in_r5 _ (mm_at 13 rfl)
theorem wm_35_11 : Cond.instanceMethod yX4_begin ∈ wsL_law := in_r35 _ (mm_at 11 rfl)
theorem wm_35_12 : Cond.selects RX4 yX4_begin yX4_begin ∈ wsL_law := in_r35 _ (mm_at 12 rfl)
theorem wm_35_13 : Cond.code yX4_begin cX4_begin 1 none ∈ wsL_law := in_r35 _ (mm_at 13 rfl)
theorem wm_35_14 : Cond.methodLink RX4 50 yX2_become ∈ wsL_law := in_r35 _ (mm_at 14 rfl)
theorem wm_35_16 : Cond.instanceMethod yX4_pass ∈ wsL_law := in_r35 _ (mm_at 16 rfl)
theorem wm_35_17 : Cond.selects RX4 yX4_pass yX4_pass ∈ wsL_law := in_r35 _ (mm_at 17 rfl)
theorem wm_35_18 : Cond.code yX4_pass cX4_pass 2 none ∈ wsL_law := in_r35 _ (mm_at 18 rfl)
theorem wm_35_19 : Cond.fieldLink RX4 64 "OrderEcho$Fraction" "spent" "Z" ∈ wsL_law := in_r35 _ (mm_at 19 rfl)
theorem wm_35_20 : Cond.methodLink RX4 54 yX2_becomeDifference ∈ wsL_law := in_r35 _ (mm_at 20 rfl)
theorem wm_35_21 : Cond.instanceMethod yX2_becomeDifference ∈ wsL_law := in_r35 _ (mm_at 21 rfl)
theorem wm_35_22 : Cond.selects RX2 yX2_becomeDifference yX2_becomeDifference ∈ wsL_law := in_r35 _ (mm_at 22 rfl)
theorem wm_35_23 : Cond.code yX2_becomeDifference cX2_becomeDifference 3 none ∈ wsL_law := in_r35 _ (mm_at 23 rfl)
theorem wm_36_1 : Cond.methodLink RX4 58 yX2_becomeProduct ∈ wsL_law := in_r36 _ (mm_at 1 rfl)
theorem wm_36_2 : Cond.instanceMethod yX2_becomeProduct ∈ wsL_law := in_r36 _ (mm_at 2 rfl)
theorem wm_36_3 : Cond.selects RX2 yX2_becomeProduct yX2_becomeProduct ∈ wsL_law := in_r36 _ (mm_at 3 rfl)
theorem wm_36_4 : Cond.code yX2_becomeProduct cX2_becomeProduct 3 none ∈ wsL_law := in_r36 _ (mm_at 4 rfl)
theorem wm_36_5 : Cond.methodLink RX4 61 yX2_becomeSum ∈ wsL_law := in_r36 _ (mm_at 5 rfl)
theorem wm_36_6 : Cond.instanceMethod yX2_becomeSum ∈ wsL_law := in_r36 _ (mm_at 6 rfl)
theorem wm_36_7 : Cond.selects RX2 yX2_becomeSum yX2_becomeSum ∈ wsL_law := in_r36 _ (mm_at 7 rfl)
theorem wm_36_8 : Cond.code yX2_becomeSum cX2_becomeSum 3 none ∈ wsL_law := in_r36 _ (mm_at 8 rfl)
theorem wm_37_23 : Cond.methodLink RX4 68 yX4_begin ∈ wsL_law := in_r37 _ (mm_at 23 rfl)
theorem wm_38_0 : Cond.methodLink RX4 71 yX4_pass ∈ wsL_law := in_r38 _ (mm_at 0 rfl)
theorem wm_38_1 : Cond.methodLink RX4 75 yX4_below ∈ wsL_law := in_r38 _ (mm_at 1 rfl)
theorem wm_38_2 : Cond.instanceMethod yX4_below ∈ wsL_law := in_r38 _ (mm_at 2 rfl)
theorem wm_38_3 : Cond.selects RX4 yX4_below yX4_below ∈ wsL_law := in_r38 _ (mm_at 3 rfl)
theorem wm_38_4 : Cond.code yX4_below cX4_below 2 none ∈ wsL_law := in_r38 _ (mm_at 4 rfl)
section
variable {p : Program} {l : Launch} {e : Env} {s : State} {m : MethodId} {args : Array Value} {below : List Frame} {meth : Method} {c : Code} {D : va_G} {G : G3} {ad : Nat → Nat}
def fX4_begin_s27 (n : Nat)    (st : St) : Option (Unit × St) := some ((), st)
set_option maxHeartbeats 4000000 in
set_option maxRecDepth 100000 in
theorem wX4_begin_s27 (C : Cx p s m args meth c cX4_begin 1 wsL_law RX4 none D G ad) (n : Nat)      (st : St) (res : (Unit × St))  (hf : fX4_begin_s27 n    st = some res) : At p l e (rmK 2) s m args below meth c D G ad (MQV D G ad below args s res) 1 st [] 27 [] := by
  obtain ⟨hx, hb, hml, hown, hts, hr, hlk, hK, had, hSt⟩ := id C
  intro H locs ls hl hP hS
  unfold fX4_begin_s27 at hf
  exact g_vret hx hb hr hlk hP hS dX4_begin_27 hf
def fX4_begin_s18 (n : Nat)    (st : St) : Option (Unit × St) := (fX2_become n 35 0 1 st).bind (fun q => fX4_begin_s27 n q.2)
set_option maxHeartbeats 4000000 in
set_option maxRecDepth 100000 in
theorem wX4_begin_s18 (C : Cx p s m args meth c cX4_begin 1 wsL_law RX4 none D G ad) (n : Nat)      (st : St) (res : (Unit × St))  (hf : fX4_begin_s18 n    st = some res) : At p l e (rmK 2) s m args below meth c D G ad (MQV D G ad below args s res) 1 st [(0, .ref (ad 24))] 18 [] := by
  obtain ⟨hx, hb, hml, hown, hts, hr, hlk, hK, had, hSt⟩ := id C
  intro H locs ls hl hP hS
  unfold fX4_begin_s18 at hf
  refine lv_aload_n hx hb dX4_begin_18 rfl (lv_at hl 0 rfl) ?_
  refine g_getR hx hb hts inlX4 hown hK hP 24 ct_24 rfl 10 (by decide) (hts _ wm_5_12) rfl dX4_begin_19 ?_
  refine lv_lconst (v := 0) hx hb dX4_begin_22 (by decide) ?_
  refine lv_lconst (v := 1) hx hb dX4_begin_23 (by decide) ?_
  obtain ⟨q, hq, hf⟩ := bd hf
  refine gcV_v (k := 1) (o := 35) (As := [.long 0, .long 1]) (rest := []) hx hb hml hown hts hK hSt hP hS hl.1 (goodV wm_35_14 wm_33_6 wm_33_7 wm_2_15 wm_33_8) okX2_become ct_35 rfl rfl (Nat.le_of_ble_eq_true rfl) (Nat.le_of_ble_eq_true rfl) rfl rfl (Nat.le_of_ble_eq_true rfl) dX4_begin_24 (kX2_become l D G ad had n 35 isFr_lit_35 0 1 st q hq) (fun H locs hP hS => ?_)
  exact wX4_begin_s27 C n q.2 res hf H locs ls (lv_sub hl [] rfl) hP hS
def fX4_begin_s9 (n : Nat)    (st : St) : Option (Unit × St) := (fX2_become n 31 0 1 st).bind (fun q => fX4_begin_s18 n q.2)
set_option maxHeartbeats 4000000 in
set_option maxRecDepth 100000 in
theorem wX4_begin_s9 (C : Cx p s m args meth c cX4_begin 1 wsL_law RX4 none D G ad) (n : Nat)      (st : St) (res : (Unit × St))  (hf : fX4_begin_s9 n    st = some res) : At p l e (rmK 2) s m args below meth c D G ad (MQV D G ad below args s res) 1 st [(0, .ref (ad 24))] 9 [] := by
  obtain ⟨hx, hb, hml, hown, hts, hr, hlk, hK, had, hSt⟩ := id C
  intro H locs ls hl hP hS
  unfold fX4_begin_s9 at hf
  refine lv_aload_n hx hb dX4_begin_9 rfl (lv_at hl 0 rfl) ?_
  refine g_getR hx hb hts inlX4 hown hK hP 24 ct_24 rfl 6 (by decide) (hts _ wm_5_8) rfl dX4_begin_10 ?_
  refine lv_lconst (v := 0) hx hb dX4_begin_13 (by decide) ?_
  refine lv_lconst (v := 1) hx hb dX4_begin_14 (by decide) ?_
  obtain ⟨q, hq, hf⟩ := bd hf
  refine gcV_v (k := 1) (o := 31) (As := [.long 0, .long 1]) (rest := []) hx hb hml hown hts hK hSt hP hS hl.1 (goodV wm_35_14 wm_33_6 wm_33_7 wm_2_15 wm_33_8) okX2_become ct_31 rfl rfl (Nat.le_of_ble_eq_true rfl) (Nat.le_of_ble_eq_true rfl) rfl rfl (Nat.le_of_ble_eq_true rfl) dX4_begin_15 (kX2_become l D G ad had n 31 isFr_lit_31 0 1 st q hq) (fun H locs hP hS => ?_)
  exact wX4_begin_s18 C n q.2 res hf H locs ls (lv_sub hl [0] rfl) hP hS
def fX4_begin_s0 (n : Nat)    (st : St) : Option (Unit × St) := (fX2_become n 30 0 1 st).bind (fun q => fX4_begin_s9 n q.2)
set_option maxHeartbeats 4000000 in
set_option maxRecDepth 100000 in
theorem wX4_begin_s0 (C : Cx p s m args meth c cX4_begin 1 wsL_law RX4 none D G ad) (n : Nat)      (st : St) (res : (Unit × St))  (hf : fX4_begin_s0 n    st = some res) : At p l e (rmK 2) s m args below meth c D G ad (MQV D G ad below args s res) 1 st [(0, .ref (ad 24))] 0 [] := by
  obtain ⟨hx, hb, hml, hown, hts, hr, hlk, hK, had, hSt⟩ := id C
  intro H locs ls hl hP hS
  unfold fX4_begin_s0 at hf
  refine lv_aload_n hx hb dX4_begin_0 rfl (lv_at hl 0 rfl) ?_
  refine g_getR hx hb hts inlX4 hown hK hP 24 ct_24 rfl 5 (by decide) (hts _ wm_5_7) rfl dX4_begin_1 ?_
  refine lv_lconst (v := 0) hx hb dX4_begin_4 (by decide) ?_
  refine lv_lconst (v := 1) hx hb dX4_begin_5 (by decide) ?_
  obtain ⟨q, hq, hf⟩ := bd hf
  refine gcV_v (k := 1) (o := 30) (As := [.long 0, .long 1]) (rest := []) hx hb hml hown hts hK hSt hP hS hl.1 (goodV wm_35_14 wm_33_6 wm_33_7 wm_2_15 wm_33_8) okX2_become ct_30 rfl rfl (Nat.le_of_ble_eq_true rfl) (Nat.le_of_ble_eq_true rfl) rfl rfl (Nat.le_of_ble_eq_true rfl) dX4_begin_6 (kX2_become l D G ad had n 30 isFr_lit_30 0 1 st q hq) (fun H locs hP hS => ?_)
  exact wX4_begin_s9 C n q.2 res hf H locs ls (lv_sub hl [0] rfl) hP hS
def fX4_begin (n : Nat)   (st : St) : Option (Unit × St) := fX4_begin_s0 n st
theorem okX4_begin : okY yX4_begin RX4 0 := by unfold okY; decide +kernel
end
set_option maxRecDepth 100000 in
theorem kX4_begin (l : Launch) (D : va_G) (G : G3) (ad : Nat → Nat) (had : Adr ad) (n : Nat)    (st : St) (res : (Unit × St)) (hf : fX4_begin n   st = some res) {sz : Nat} : CtV l yX4_begin (wsU yX4_begin cX4_begin 1 none) (rmK 2) D G ad sz [.ref (ad 24)] st res := by
  refine Met.ofW (cc := cX4_begin) (maxL := 1) (ret := none) (by decide) rfl ?_
  intro p e s m args below meth c s₁ B hml hv
  obtain ⟨rfl, hsz, hP, hK, hSt⟩ := hv
  have hts := atoms_spec (ws := wsU yX4_begin cX4_begin 1 none) B.pre
  have C : Cx p s m _ meth c cX4_begin 1 wsL_law RX4 none D G ad := ⟨B.exec, B.bytes, hml, findClass_of_methodNamed B.named, fun w h => hts w (List.mem_cons_of_mem _ h), B.returns, B.notSynchronized, hK, had, hSt⟩
  subst hsz
  have hl := lv_entry ([.ref (ad 24)]) (n := 1) (Nat.le_of_ble_eq_true rfl)
  rw [lg_entry_eq]
  generalize (lg_sl ([.ref (ad 24)]) ++ List.replicate (1 - (lg_sl ([.ref (ad 24)])).length) Slot.unset).toArray = ls at hl ⊢
  exact wX4_begin_s0 C n     st res hf s.heap [] ls (lv_sub hl [0] rfl) hP va_S.rf
section
variable {p : Program} {l : Launch} {e : Env} {s : State} {m : MethodId} {args : Array Value} {below : List Frame} {meth : Method} {c : Code} {D : va_G} {G : G3} {ad : Nat → Nat}
def fX4_pass_s184 (n : Nat)    (st : St) : Option (Unit × St) := some ((), st)
set_option maxHeartbeats 4000000 in
set_option maxRecDepth 100000 in
theorem wX4_pass_s184 (C : Cx p s m args meth c cX4_pass 2 wsL_law RX4 none D G ad) (n : Nat)      (st : St) (res : (Unit × St))  (hf : fX4_pass_s184 n    st = some res) : At p l e (rmK 3) s m args below meth c D G ad (MQV D G ad below args s res) 2 st [] 184 [] := by
  obtain ⟨hx, hb, hml, hown, hts, hr, hlk, hK, had, hSt⟩ := id C
  intro H locs ls hl hP hS
  unfold fX4_pass_s184 at hf
  exact g_vret hx hb hr hlk hP hS dX4_pass_184 hf
def fX4_pass_s181 (n : Nat)   (k1 : Int32) (st : St) : Option (Unit × St) := if zb k1 = true then (fX4_pass_s184 n (setI st 32 2 k1)) else none
set_option maxHeartbeats 4000000 in
set_option maxRecDepth 100000 in
theorem wX4_pass_s181 (C : Cx p s m args meth c cX4_pass 2 wsL_law RX4 none D G ad) (n : Nat)   (k1 : Int32)   (st : St) (res : (Unit × St))  (hf : fX4_pass_s181 n   k1 st = some res) : At p l e (rmK 3) s m args below meth c D G ad (MQV D G ad below args s res) 2 st [] 181 [.int k1, .ref (ad 32)] := by
  obtain ⟨hx, hb, hml, hown, hts, hr, hlk, hK, had, hSt⟩ := id C
  intro H locs ls hl hP hS
  unfold fX4_pass_s181 at hf
  obtain ⟨gz, hf⟩ := gd hf
  refine g_putI hx hb hts inlX2 tyX2_ok nmX2 hown hK had hP hS 32 ct_32 rfl 2 (by decide) (hts _ wm_35_19) rfl rfl rfl (zb_n gz) (zb_f gz) dX4_pass_181 (fun H locs hP hS => ?_)
  exact wX4_pass_s184 C n (setI st 32 2 k1) res hf H locs ls (lv_sub hl [] rfl) hP hS
def fX4_pass_s176 (n : Nat)    (st : St) : Option (Unit × St) := fX4_pass_s181 n 1 st
set_option maxHeartbeats 4000000 in
set_option maxRecDepth 100000 in
theorem wX4_pass_s176 (C : Cx p s m args meth c cX4_pass 2 wsL_law RX4 none D G ad) (n : Nat)      (st : St) (res : (Unit × St))  (hf : fX4_pass_s176 n    st = some res) : At p l e (rmK 3) s m args below meth c D G ad (MQV D G ad below args s res) 2 st [] 176 [.ref (ad 32)] := by
  obtain ⟨hx, hb, hml, hown, hts, hr, hlk, hK, had, hSt⟩ := id C
  intro H locs ls hl hP hS
  unfold fX4_pass_s176 at hf
  refine lv_iconst (v := 1) hx hb dX4_pass_176 (by decide) ?_
  refine lv_goto (tgt := 181) hx hb dX4_pass_177 (by decide) ?_
  exact wX4_pass_s181 C n 1 st res hf H locs ls (lv_sub hl [] rfl) hP hS
def fX4_pass_s180 (n : Nat)    (st : St) : Option (Unit × St) := fX4_pass_s181 n 0 st
set_option maxHeartbeats 4000000 in
set_option maxRecDepth 100000 in
theorem wX4_pass_s180 (C : Cx p s m args meth c cX4_pass 2 wsL_law RX4 none D G ad) (n : Nat)      (st : St) (res : (Unit × St))  (hf : fX4_pass_s180 n    st = some res) : At p l e (rmK 3) s m args below meth c D G ad (MQV D G ad below args s res) 2 st [] 180 [.ref (ad 32)] := by
  obtain ⟨hx, hb, hml, hown, hts, hr, hlk, hK, had, hSt⟩ := id C
  intro H locs ls hl hP hS
  unfold fX4_pass_s180 at hf
  refine lv_iconst (v := 0) hx hb dX4_pass_180 (by decide) ?_
  exact wX4_pass_s181 C n 0 st res hf H locs ls (lv_sub hl [] rfl) hP hS
def fX4_pass_s166 (n : Nat)    (st : St) : Option (Unit × St) := if (st.1 31 2) = 0 then fX4_pass_s180 n st else fX4_pass_s176 n st
set_option maxHeartbeats 4000000 in
set_option maxRecDepth 100000 in
theorem wX4_pass_s166 (C : Cx p s m args meth c cX4_pass 2 wsL_law RX4 none D G ad) (n : Nat)      (st : St) (res : (Unit × St))  (hf : fX4_pass_s166 n    st = some res) : At p l e (rmK 3) s m args below meth c D G ad (MQV D G ad below args s res) 2 st [(0, .ref (ad 24))] 166 [.ref (ad 32)] := by
  obtain ⟨hx, hb, hml, hown, hts, hr, hlk, hK, had, hSt⟩ := id C
  intro H locs ls hl hP hS
  unfold fX4_pass_s166 at hf
  refine lv_aload_n hx hb dX4_pass_166 rfl (lv_at hl 0 rfl) ?_
  refine g_getR hx hb hts inlX4 hown hK hP 24 ct_24 rfl 6 (by decide) (hts _ wm_5_8) rfl dX4_pass_167 ?_
  refine g_getI hx hb hts inlX2 hown hK hP 31 ct_31 rfl 2 (by decide) (hts _ wm_35_19) rfl dX4_pass_170 ?_
  refine lv_if_eq (tgt := 180) hx hb dX4_pass_173 (by decide) (fun q => ?_) (fun q => ?_)
  · exact wX4_pass_s180 C n st res (it hf q) H locs ls (lv_sub hl [] rfl) hP hS
  · exact wX4_pass_s176 C n st res (ie hf q) H locs ls (lv_sub hl [] rfl) hP hS
def fX4_pass_s152 (n : Nat)    (st : St) : Option (Unit × St) := if (st.1 32 2) = 0 then fX4_pass_s166 n st else fX4_pass_s176 n st
set_option maxHeartbeats 4000000 in
set_option maxRecDepth 100000 in
theorem wX4_pass_s152 (C : Cx p s m args meth c cX4_pass 2 wsL_law RX4 none D G ad) (n : Nat)      (st : St) (res : (Unit × St))  (hf : fX4_pass_s152 n    st = some res) : At p l e (rmK 3) s m args below meth c D G ad (MQV D G ad below args s res) 2 st [(0, .ref (ad 24))] 152 [] := by
  obtain ⟨hx, hb, hml, hown, hts, hr, hlk, hK, had, hSt⟩ := id C
  intro H locs ls hl hP hS
  unfold fX4_pass_s152 at hf
  refine lv_aload_n hx hb dX4_pass_152 rfl (lv_at hl 0 rfl) ?_
  refine g_getR hx hb hts inlX4 hown hK hP 24 ct_24 rfl 7 (by decide) (hts _ wm_5_9) rfl dX4_pass_153 ?_
  refine lv_aload_n hx hb dX4_pass_156 rfl (lv_at hl 0 rfl) ?_
  refine g_getR hx hb hts inlX4 hown hK hP 24 ct_24 rfl 7 (by decide) (hts _ wm_5_9) rfl dX4_pass_157 ?_
  refine g_getI hx hb hts inlX2 hown hK hP 32 ct_32 rfl 2 (by decide) (hts _ wm_35_19) rfl dX4_pass_160 ?_
  refine lv_if_ne (tgt := 176) hx hb dX4_pass_163 (by decide) (fun q => ?_) (fun q => ?_)
  · exact wX4_pass_s176 C n st res (ie hf q) H locs ls (lv_sub hl [] rfl) hP hS
  · exact wX4_pass_s166 C n st res (it hf q) H locs ls (lv_sub hl [0] rfl) hP hS
def fX4_pass_s137 (n : Nat)    (st : St) : Option (Unit × St) := (fX2_becomeSum n 31 31 32 st).bind (fun q => fX4_pass_s152 n q.2)
set_option maxHeartbeats 4000000 in
set_option maxRecDepth 100000 in
theorem wX4_pass_s137 (C : Cx p s m args meth c cX4_pass 2 wsL_law RX4 none D G ad) (n : Nat)      (st : St) (res : (Unit × St))  (hf : fX4_pass_s137 n    st = some res) : At p l e (rmK 3) s m args below meth c D G ad (MQV D G ad below args s res) 2 st [(0, .ref (ad 24))] 137 [] := by
  obtain ⟨hx, hb, hml, hown, hts, hr, hlk, hK, had, hSt⟩ := id C
  intro H locs ls hl hP hS
  unfold fX4_pass_s137 at hf
  refine lv_aload_n hx hb dX4_pass_137 rfl (lv_at hl 0 rfl) ?_
  refine g_getR hx hb hts inlX4 hown hK hP 24 ct_24 rfl 6 (by decide) (hts _ wm_5_8) rfl dX4_pass_138 ?_
  refine lv_aload_n hx hb dX4_pass_141 rfl (lv_at hl 0 rfl) ?_
  refine g_getR hx hb hts inlX4 hown hK hP 24 ct_24 rfl 6 (by decide) (hts _ wm_5_8) rfl dX4_pass_142 ?_
  refine lv_aload_n hx hb dX4_pass_145 rfl (lv_at hl 0 rfl) ?_
  refine g_getR hx hb hts inlX4 hown hK hP 24 ct_24 rfl 7 (by decide) (hts _ wm_5_9) rfl dX4_pass_146 ?_
  obtain ⟨q, hq, hf⟩ := bd hf
  refine gcV_v (k := 2) (o := 31) (As := [.ref (ad 31), .ref (ad 32)]) (rest := []) hx hb hml hown hts hK hSt hP hS hl.1 (goodV wm_36_5 wm_36_6 wm_36_7 wm_2_15 wm_36_8) okX2_becomeSum ct_31 rfl rfl (Nat.le_of_ble_eq_true rfl) (Nat.le_of_ble_eq_true rfl) rfl rfl (Nat.le_of_ble_eq_true rfl) dX4_pass_149 (kX2_becomeSum l D G ad had n 31 31 32 isFr_lit_31 isFr_lit_31 isFr_lit_32  st q hq) (fun H locs hP hS => ?_)
  exact wX4_pass_s152 C n q.2 res hf H locs ls (lv_sub hl [0] rfl) hP hS
def fX4_pass_s122 (n : Nat)    (st : St) : Option (Unit × St) := (fX2_becomeSum n 32 29 33 st).bind (fun q => fX4_pass_s137 n q.2)
set_option maxHeartbeats 4000000 in
set_option maxRecDepth 100000 in
theorem wX4_pass_s122 (C : Cx p s m args meth c cX4_pass 2 wsL_law RX4 none D G ad) (n : Nat)      (st : St) (res : (Unit × St))  (hf : fX4_pass_s122 n    st = some res) : At p l e (rmK 3) s m args below meth c D G ad (MQV D G ad below args s res) 2 st [(0, .ref (ad 24))] 122 [] := by
  obtain ⟨hx, hb, hml, hown, hts, hr, hlk, hK, had, hSt⟩ := id C
  intro H locs ls hl hP hS
  unfold fX4_pass_s122 at hf
  refine lv_aload_n hx hb dX4_pass_122 rfl (lv_at hl 0 rfl) ?_
  refine g_getR hx hb hts inlX4 hown hK hP 24 ct_24 rfl 7 (by decide) (hts _ wm_5_9) rfl dX4_pass_123 ?_
  refine lv_aload_n hx hb dX4_pass_126 rfl (lv_at hl 0 rfl) ?_
  refine g_getR hx hb hts inlX4 hown hK hP 24 ct_24 rfl 4 (by decide) (hts _ wm_5_6) rfl dX4_pass_127 ?_
  refine lv_aload_n hx hb dX4_pass_130 rfl (lv_at hl 0 rfl) ?_
  refine g_getR hx hb hts inlX4 hown hK hP 24 ct_24 rfl 8 (by decide) (hts _ wm_5_10) rfl dX4_pass_131 ?_
  obtain ⟨q, hq, hf⟩ := bd hf
  refine gcV_v (k := 2) (o := 32) (As := [.ref (ad 29), .ref (ad 33)]) (rest := []) hx hb hml hown hts hK hSt hP hS hl.1 (goodV wm_36_5 wm_36_6 wm_36_7 wm_2_15 wm_36_8) okX2_becomeSum ct_32 rfl rfl (Nat.le_of_ble_eq_true rfl) (Nat.le_of_ble_eq_true rfl) rfl rfl (Nat.le_of_ble_eq_true rfl) dX4_pass_134 (kX2_becomeSum l D G ad had n 32 29 33 isFr_lit_32 isFr_lit_29 isFr_lit_33  st q hq) (fun H locs hP hS => ?_)
  exact wX4_pass_s137 C n q.2 res hf H locs ls (lv_sub hl [0] rfl) hP hS
def fX4_pass_s107 (n : Nat)    (st : St) : Option (Unit × St) := (fX2_becomeProduct n 33 26 33 st).bind (fun q => fX4_pass_s122 n q.2)
set_option maxHeartbeats 4000000 in
set_option maxRecDepth 100000 in
theorem wX4_pass_s107 (C : Cx p s m args meth c cX4_pass 2 wsL_law RX4 none D G ad) (n : Nat)      (st : St) (res : (Unit × St))  (hf : fX4_pass_s107 n    st = some res) : At p l e (rmK 3) s m args below meth c D G ad (MQV D G ad below args s res) 2 st [(0, .ref (ad 24))] 107 [] := by
  obtain ⟨hx, hb, hml, hown, hts, hr, hlk, hK, had, hSt⟩ := id C
  intro H locs ls hl hP hS
  unfold fX4_pass_s107 at hf
  refine lv_aload_n hx hb dX4_pass_107 rfl (lv_at hl 0 rfl) ?_
  refine g_getR hx hb hts inlX4 hown hK hP 24 ct_24 rfl 8 (by decide) (hts _ wm_5_10) rfl dX4_pass_108 ?_
  refine lv_aload_n hx hb dX4_pass_111 rfl (lv_at hl 0 rfl) ?_
  refine g_getR hx hb hts inlX4 hown hK hP 24 ct_24 rfl 1 (by decide) (hts _ wm_5_3) rfl dX4_pass_112 ?_
  refine lv_aload_n hx hb dX4_pass_115 rfl (lv_at hl 0 rfl) ?_
  refine g_getR hx hb hts inlX4 hown hK hP 24 ct_24 rfl 8 (by decide) (hts _ wm_5_10) rfl dX4_pass_116 ?_
  obtain ⟨q, hq, hf⟩ := bd hf
  refine gcV_v (k := 2) (o := 33) (As := [.ref (ad 26), .ref (ad 33)]) (rest := []) hx hb hml hown hts hK hSt hP hS hl.1 (goodV wm_36_1 wm_36_2 wm_36_3 wm_2_15 wm_36_4) okX2_becomeProduct ct_33 rfl rfl (Nat.le_of_ble_eq_true rfl) (Nat.le_of_ble_eq_true rfl) rfl rfl (Nat.le_of_ble_eq_true rfl) dX4_pass_119 (kX2_becomeProduct l D G ad had n 33 26 33 isFr_lit_33 isFr_lit_26 isFr_lit_33  st q hq) (fun H locs hP hS => ?_)
  exact wX4_pass_s122 C n q.2 res hf H locs ls (lv_sub hl [0] rfl) hP hS
def fX4_pass_s92 (n : Nat)    (st : St) : Option (Unit × St) := (fX2_becomeDifference n 33 33 31 st).bind (fun q => fX4_pass_s107 n q.2)
set_option maxHeartbeats 4000000 in
set_option maxRecDepth 100000 in
theorem wX4_pass_s92 (C : Cx p s m args meth c cX4_pass 2 wsL_law RX4 none D G ad) (n : Nat)      (st : St) (res : (Unit × St))  (hf : fX4_pass_s92 n    st = some res) : At p l e (rmK 3) s m args below meth c D G ad (MQV D G ad below args s res) 2 st [(0, .ref (ad 24))] 92 [] := by
  obtain ⟨hx, hb, hml, hown, hts, hr, hlk, hK, had, hSt⟩ := id C
  intro H locs ls hl hP hS
  unfold fX4_pass_s92 at hf
  refine lv_aload_n hx hb dX4_pass_92 rfl (lv_at hl 0 rfl) ?_
  refine g_getR hx hb hts inlX4 hown hK hP 24 ct_24 rfl 8 (by decide) (hts _ wm_5_10) rfl dX4_pass_93 ?_
  refine lv_aload_n hx hb dX4_pass_96 rfl (lv_at hl 0 rfl) ?_
  refine g_getR hx hb hts inlX4 hown hK hP 24 ct_24 rfl 8 (by decide) (hts _ wm_5_10) rfl dX4_pass_97 ?_
  refine lv_aload_n hx hb dX4_pass_100 rfl (lv_at hl 0 rfl) ?_
  refine g_getR hx hb hts inlX4 hown hK hP 24 ct_24 rfl 6 (by decide) (hts _ wm_5_8) rfl dX4_pass_101 ?_
  obtain ⟨q, hq, hf⟩ := bd hf
  refine gcV_v (k := 2) (o := 33) (As := [.ref (ad 33), .ref (ad 31)]) (rest := []) hx hb hml hown hts hK hSt hP hS hl.1 (goodV wm_35_20 wm_35_21 wm_35_22 wm_2_15 wm_35_23) okX2_becomeDifference ct_33 rfl rfl (Nat.le_of_ble_eq_true rfl) (Nat.le_of_ble_eq_true rfl) rfl rfl (Nat.le_of_ble_eq_true rfl) dX4_pass_104 (kX2_becomeDifference l D G ad had n 33 33 31 isFr_lit_33 isFr_lit_33 isFr_lit_31  st q hq) (fun H locs hP hS => ?_)
  exact wX4_pass_s107 C n q.2 res hf H locs ls (lv_sub hl [0] rfl) hP hS
def fX4_pass_s77 (n : Nat)    (st : St) : Option (Unit × St) := (fX2_becomeProduct n 33 27 30 st).bind (fun q => fX4_pass_s92 n q.2)
set_option maxHeartbeats 4000000 in
set_option maxRecDepth 100000 in
theorem wX4_pass_s77 (C : Cx p s m args meth c cX4_pass 2 wsL_law RX4 none D G ad) (n : Nat)      (st : St) (res : (Unit × St))  (hf : fX4_pass_s77 n    st = some res) : At p l e (rmK 3) s m args below meth c D G ad (MQV D G ad below args s res) 2 st [(0, .ref (ad 24))] 77 [] := by
  obtain ⟨hx, hb, hml, hown, hts, hr, hlk, hK, had, hSt⟩ := id C
  intro H locs ls hl hP hS
  unfold fX4_pass_s77 at hf
  refine lv_aload_n hx hb dX4_pass_77 rfl (lv_at hl 0 rfl) ?_
  refine g_getR hx hb hts inlX4 hown hK hP 24 ct_24 rfl 8 (by decide) (hts _ wm_5_10) rfl dX4_pass_78 ?_
  refine lv_aload_n hx hb dX4_pass_81 rfl (lv_at hl 0 rfl) ?_
  refine g_getR hx hb hts inlX4 hown hK hP 24 ct_24 rfl 2 (by decide) (hts _ wm_5_4) rfl dX4_pass_82 ?_
  refine lv_aload_n hx hb dX4_pass_85 rfl (lv_at hl 0 rfl) ?_
  refine g_getR hx hb hts inlX4 hown hK hP 24 ct_24 rfl 5 (by decide) (hts _ wm_5_7) rfl dX4_pass_86 ?_
  obtain ⟨q, hq, hf⟩ := bd hf
  refine gcV_v (k := 2) (o := 33) (As := [.ref (ad 27), .ref (ad 30)]) (rest := []) hx hb hml hown hts hK hSt hP hS hl.1 (goodV wm_36_1 wm_36_2 wm_36_3 wm_2_15 wm_36_4) okX2_becomeProduct ct_33 rfl rfl (Nat.le_of_ble_eq_true rfl) (Nat.le_of_ble_eq_true rfl) rfl rfl (Nat.le_of_ble_eq_true rfl) dX4_pass_89 (kX2_becomeProduct l D G ad had n 33 27 30 isFr_lit_33 isFr_lit_27 isFr_lit_30  st q hq) (fun H locs hP hS => ?_)
  exact wX4_pass_s92 C n q.2 res hf H locs ls (lv_sub hl [0] rfl) hP hS
def fX4_pass_s62 (n : Nat)    (st : St) : Option (Unit × St) := (fX2_becomeDifference n 31 31 29 st).bind (fun q => fX4_pass_s77 n q.2)
set_option maxHeartbeats 4000000 in
set_option maxRecDepth 100000 in
theorem wX4_pass_s62 (C : Cx p s m args meth c cX4_pass 2 wsL_law RX4 none D G ad) (n : Nat)      (st : St) (res : (Unit × St))  (hf : fX4_pass_s62 n    st = some res) : At p l e (rmK 3) s m args below meth c D G ad (MQV D G ad below args s res) 2 st [(0, .ref (ad 24))] 62 [] := by
  obtain ⟨hx, hb, hml, hown, hts, hr, hlk, hK, had, hSt⟩ := id C
  intro H locs ls hl hP hS
  unfold fX4_pass_s62 at hf
  refine lv_aload_n hx hb dX4_pass_62 rfl (lv_at hl 0 rfl) ?_
  refine g_getR hx hb hts inlX4 hown hK hP 24 ct_24 rfl 6 (by decide) (hts _ wm_5_8) rfl dX4_pass_63 ?_
  refine lv_aload_n hx hb dX4_pass_66 rfl (lv_at hl 0 rfl) ?_
  refine g_getR hx hb hts inlX4 hown hK hP 24 ct_24 rfl 6 (by decide) (hts _ wm_5_8) rfl dX4_pass_67 ?_
  refine lv_aload_n hx hb dX4_pass_70 rfl (lv_at hl 0 rfl) ?_
  refine g_getR hx hb hts inlX4 hown hK hP 24 ct_24 rfl 4 (by decide) (hts _ wm_5_6) rfl dX4_pass_71 ?_
  obtain ⟨q, hq, hf⟩ := bd hf
  refine gcV_v (k := 2) (o := 31) (As := [.ref (ad 31), .ref (ad 29)]) (rest := []) hx hb hml hown hts hK hSt hP hS hl.1 (goodV wm_35_20 wm_35_21 wm_35_22 wm_2_15 wm_35_23) okX2_becomeDifference ct_31 rfl rfl (Nat.le_of_ble_eq_true rfl) (Nat.le_of_ble_eq_true rfl) rfl rfl (Nat.le_of_ble_eq_true rfl) dX4_pass_74 (kX2_becomeDifference l D G ad had n 31 31 29 isFr_lit_31 isFr_lit_31 isFr_lit_29  st q hq) (fun H locs hP hS => ?_)
  exact wX4_pass_s77 C n q.2 res hf H locs ls (lv_sub hl [0] rfl) hP hS
def fX4_pass_s47 (n : Nat)    (st : St) : Option (Unit × St) := (fX2_becomeSum n 30 30 33 st).bind (fun q => fX4_pass_s62 n q.2)
set_option maxHeartbeats 4000000 in
set_option maxRecDepth 100000 in
theorem wX4_pass_s47 (C : Cx p s m args meth c cX4_pass 2 wsL_law RX4 none D G ad) (n : Nat)      (st : St) (res : (Unit × St))  (hf : fX4_pass_s47 n    st = some res) : At p l e (rmK 3) s m args below meth c D G ad (MQV D G ad below args s res) 2 st [(0, .ref (ad 24))] 47 [] := by
  obtain ⟨hx, hb, hml, hown, hts, hr, hlk, hK, had, hSt⟩ := id C
  intro H locs ls hl hP hS
  unfold fX4_pass_s47 at hf
  refine lv_aload_n hx hb dX4_pass_47 rfl (lv_at hl 0 rfl) ?_
  refine g_getR hx hb hts inlX4 hown hK hP 24 ct_24 rfl 5 (by decide) (hts _ wm_5_7) rfl dX4_pass_48 ?_
  refine lv_aload_n hx hb dX4_pass_51 rfl (lv_at hl 0 rfl) ?_
  refine g_getR hx hb hts inlX4 hown hK hP 24 ct_24 rfl 5 (by decide) (hts _ wm_5_7) rfl dX4_pass_52 ?_
  refine lv_aload_n hx hb dX4_pass_55 rfl (lv_at hl 0 rfl) ?_
  refine g_getR hx hb hts inlX4 hown hK hP 24 ct_24 rfl 8 (by decide) (hts _ wm_5_10) rfl dX4_pass_56 ?_
  obtain ⟨q, hq, hf⟩ := bd hf
  refine gcV_v (k := 2) (o := 30) (As := [.ref (ad 30), .ref (ad 33)]) (rest := []) hx hb hml hown hts hK hSt hP hS hl.1 (goodV wm_36_5 wm_36_6 wm_36_7 wm_2_15 wm_36_8) okX2_becomeSum ct_30 rfl rfl (Nat.le_of_ble_eq_true rfl) (Nat.le_of_ble_eq_true rfl) rfl rfl (Nat.le_of_ble_eq_true rfl) dX4_pass_59 (kX2_becomeSum l D G ad had n 30 30 33 isFr_lit_30 isFr_lit_30 isFr_lit_33  st q hq) (fun H locs hP hS => ?_)
  exact wX4_pass_s62 C n q.2 res hf H locs ls (lv_sub hl [0] rfl) hP hS
def fX4_pass_s32 (n : Nat)    (st : St) : Option (Unit × St) := (fX2_becomeProduct n 33 25 33 st).bind (fun q => fX4_pass_s47 n q.2)
set_option maxHeartbeats 4000000 in
set_option maxRecDepth 100000 in
theorem wX4_pass_s32 (C : Cx p s m args meth c cX4_pass 2 wsL_law RX4 none D G ad) (n : Nat)      (st : St) (res : (Unit × St))  (hf : fX4_pass_s32 n    st = some res) : At p l e (rmK 3) s m args below meth c D G ad (MQV D G ad below args s res) 2 st [(0, .ref (ad 24))] 32 [] := by
  obtain ⟨hx, hb, hml, hown, hts, hr, hlk, hK, had, hSt⟩ := id C
  intro H locs ls hl hP hS
  unfold fX4_pass_s32 at hf
  refine lv_aload_n hx hb dX4_pass_32 rfl (lv_at hl 0 rfl) ?_
  refine g_getR hx hb hts inlX4 hown hK hP 24 ct_24 rfl 8 (by decide) (hts _ wm_5_10) rfl dX4_pass_33 ?_
  refine lv_aload_n hx hb dX4_pass_36 rfl (lv_at hl 0 rfl) ?_
  refine g_getR hx hb hts inlX4 hown hK hP 24 ct_24 rfl 0 (by decide) (hts _ wm_5_2) rfl dX4_pass_37 ?_
  refine lv_aload_n hx hb dX4_pass_40 rfl (lv_at hl 0 rfl) ?_
  refine g_getR hx hb hts inlX4 hown hK hP 24 ct_24 rfl 8 (by decide) (hts _ wm_5_10) rfl dX4_pass_41 ?_
  obtain ⟨q, hq, hf⟩ := bd hf
  refine gcV_v (k := 2) (o := 33) (As := [.ref (ad 25), .ref (ad 33)]) (rest := []) hx hb hml hown hts hK hSt hP hS hl.1 (goodV wm_36_1 wm_36_2 wm_36_3 wm_2_15 wm_36_4) okX2_becomeProduct ct_33 rfl rfl (Nat.le_of_ble_eq_true rfl) (Nat.le_of_ble_eq_true rfl) rfl rfl (Nat.le_of_ble_eq_true rfl) dX4_pass_44 (kX2_becomeProduct l D G ad had n 33 25 33 isFr_lit_33 isFr_lit_25 isFr_lit_33  st q hq) (fun H locs hP hS => ?_)
  exact wX4_pass_s47 C n q.2 res hf H locs ls (lv_sub hl [0] rfl) hP hS
def fX4_pass_s17 (n : Nat)    (st : St) : Option (Unit × St) := (fX2_becomeDifference n 33 29 30 st).bind (fun q => fX4_pass_s32 n q.2)
set_option maxHeartbeats 4000000 in
set_option maxRecDepth 100000 in
theorem wX4_pass_s17 (C : Cx p s m args meth c cX4_pass 2 wsL_law RX4 none D G ad) (n : Nat)      (st : St) (res : (Unit × St))  (hf : fX4_pass_s17 n    st = some res) : At p l e (rmK 3) s m args below meth c D G ad (MQV D G ad below args s res) 2 st [(0, .ref (ad 24))] 17 [] := by
  obtain ⟨hx, hb, hml, hown, hts, hr, hlk, hK, had, hSt⟩ := id C
  intro H locs ls hl hP hS
  unfold fX4_pass_s17 at hf
  refine lv_aload_n hx hb dX4_pass_17 rfl (lv_at hl 0 rfl) ?_
  refine g_getR hx hb hts inlX4 hown hK hP 24 ct_24 rfl 8 (by decide) (hts _ wm_5_10) rfl dX4_pass_18 ?_
  refine lv_aload_n hx hb dX4_pass_21 rfl (lv_at hl 0 rfl) ?_
  refine g_getR hx hb hts inlX4 hown hK hP 24 ct_24 rfl 4 (by decide) (hts _ wm_5_6) rfl dX4_pass_22 ?_
  refine lv_aload_n hx hb dX4_pass_25 rfl (lv_at hl 0 rfl) ?_
  refine g_getR hx hb hts inlX4 hown hK hP 24 ct_24 rfl 5 (by decide) (hts _ wm_5_7) rfl dX4_pass_26 ?_
  obtain ⟨q, hq, hf⟩ := bd hf
  refine gcV_v (k := 2) (o := 33) (As := [.ref (ad 29), .ref (ad 30)]) (rest := []) hx hb hml hown hts hK hSt hP hS hl.1 (goodV wm_35_20 wm_35_21 wm_35_22 wm_2_15 wm_35_23) okX2_becomeDifference ct_33 rfl rfl (Nat.le_of_ble_eq_true rfl) (Nat.le_of_ble_eq_true rfl) rfl rfl (Nat.le_of_ble_eq_true rfl) dX4_pass_29 (kX2_becomeDifference l D G ad had n 33 29 30 isFr_lit_33 isFr_lit_29 isFr_lit_30  st q hq) (fun H locs hP hS => ?_)
  exact wX4_pass_s32 C n q.2 res hf H locs ls (lv_sub hl [0] rfl) hP hS
def fX4_pass_s13 (n : Nat)   (k1 : Int64) (st : St) : Option (Unit × St) := (fX2_become n 29 k1 1 st).bind (fun q => fX4_pass_s17 n q.2)
set_option maxHeartbeats 4000000 in
set_option maxRecDepth 100000 in
theorem wX4_pass_s13 (C : Cx p s m args meth c cX4_pass 2 wsL_law RX4 none D G ad) (n : Nat)   (k1 : Int64)   (st : St) (res : (Unit × St))  (hf : fX4_pass_s13 n   k1 st = some res) : At p l e (rmK 3) s m args below meth c D G ad (MQV D G ad below args s res) 2 st [(0, .ref (ad 24))] 13 [.long k1, .ref (ad 29)] := by
  obtain ⟨hx, hb, hml, hown, hts, hr, hlk, hK, had, hSt⟩ := id C
  intro H locs ls hl hP hS
  unfold fX4_pass_s13 at hf
  refine lv_lconst (v := 1) hx hb dX4_pass_13 (by decide) ?_
  obtain ⟨q, hq, hf⟩ := bd hf
  refine gcV_v (k := 1) (o := 29) (As := [.long k1, .long 1]) (rest := []) hx hb hml hown hts hK hSt hP hS hl.1 (goodV wm_35_14 wm_33_6 wm_33_7 wm_2_15 wm_33_8) okX2_become ct_29 rfl rfl (Nat.le_of_ble_eq_true rfl) (Nat.le_of_ble_eq_true rfl) rfl rfl (Nat.le_of_ble_eq_true rfl) dX4_pass_14 (kX2_become l D G ad had n 29 isFr_lit_29 k1 1 st q hq) (fun H locs hP hS => ?_)
  exact wX4_pass_s17 C n q.2 res hf H locs ls (lv_sub hl [0] rfl) hP hS
def fX4_pass_s12 (n : Nat)    (st : St) : Option (Unit × St) := fX4_pass_s13 n 0 st
set_option maxHeartbeats 4000000 in
set_option maxRecDepth 100000 in
theorem wX4_pass_s12 (C : Cx p s m args meth c cX4_pass 2 wsL_law RX4 none D G ad) (n : Nat)      (st : St) (res : (Unit × St))  (hf : fX4_pass_s12 n    st = some res) : At p l e (rmK 3) s m args below meth c D G ad (MQV D G ad below args s res) 2 st [(0, .ref (ad 24))] 12 [.ref (ad 29)] := by
  obtain ⟨hx, hb, hml, hown, hts, hr, hlk, hK, had, hSt⟩ := id C
  intro H locs ls hl hP hS
  unfold fX4_pass_s12 at hf
  refine lv_lconst (v := 0) hx hb dX4_pass_12 (by decide) ?_
  exact wX4_pass_s13 C n 0 st res hf H locs ls (lv_sub hl [0] rfl) hP hS
def fX4_pass_s8 (n : Nat)    (st : St) : Option (Unit × St) := fX4_pass_s13 n 1 st
set_option maxHeartbeats 4000000 in
set_option maxRecDepth 100000 in
theorem wX4_pass_s8 (C : Cx p s m args meth c cX4_pass 2 wsL_law RX4 none D G ad) (n : Nat)      (st : St) (res : (Unit × St))  (hf : fX4_pass_s8 n    st = some res) : At p l e (rmK 3) s m args below meth c D G ad (MQV D G ad below args s res) 2 st [(0, .ref (ad 24))] 8 [.ref (ad 29)] := by
  obtain ⟨hx, hb, hml, hown, hts, hr, hlk, hK, had, hSt⟩ := id C
  intro H locs ls hl hP hS
  unfold fX4_pass_s8 at hf
  refine lv_lconst (v := 1) hx hb dX4_pass_8 (by decide) ?_
  refine lv_goto (tgt := 13) hx hb dX4_pass_9 (by decide) ?_
  exact wX4_pass_s13 C n 1 st res hf H locs ls (lv_sub hl [0] rfl) hP hS
def fX4_pass_s0 (n : Nat)   (v1 : Int32) (st : St) : Option (Unit × St) := if v1 = 0 then fX4_pass_s8 n st else fX4_pass_s12 n st
set_option maxHeartbeats 4000000 in
set_option maxRecDepth 100000 in
theorem wX4_pass_s0 (C : Cx p s m args meth c cX4_pass 2 wsL_law RX4 none D G ad) (n : Nat)   (v1 : Int32)   (st : St) (res : (Unit × St))  (hf : fX4_pass_s0 n   v1 st = some res) : At p l e (rmK 3) s m args below meth c D G ad (MQV D G ad below args s res) 2 st [(0, .ref (ad 24)), (1, .int v1)] 0 [] := by
  obtain ⟨hx, hb, hml, hown, hts, hr, hlk, hK, had, hSt⟩ := id C
  intro H locs ls hl hP hS
  unfold fX4_pass_s0 at hf
  refine lv_aload_n hx hb dX4_pass_0 rfl (lv_at hl 0 rfl) ?_
  refine g_getR hx hb hts inlX4 hown hK hP 24 ct_24 rfl 4 (by decide) (hts _ wm_5_6) rfl dX4_pass_1 ?_
  refine lv_iload_n hx hb dX4_pass_4 rfl (lv_at hl 1 rfl) ?_
  refine lv_if_ne (tgt := 12) hx hb dX4_pass_5 (by decide) (fun q => ?_) (fun q => ?_)
  · exact wX4_pass_s12 C n st res (ie hf q) H locs ls (lv_sub hl [0] rfl) hP hS
  · exact wX4_pass_s8 C n st res (it hf q) H locs ls (lv_sub hl [0] rfl) hP hS
def fX4_pass (n : Nat)  (a1 : Int32) (st : St) : Option (Unit × St) := fX4_pass_s0 n a1 st
theorem okX4_pass : okY yX4_pass RX4 1 := by unfold okY; decide +kernel
end
set_option maxRecDepth 100000 in
theorem kX4_pass (l : Launch) (D : va_G) (G : G3) (ad : Nat → Nat) (had : Adr ad) (n : Nat)   (a1 : Int32) (st : St) (res : (Unit × St)) (hf : fX4_pass n  a1 st = some res) {sz : Nat} : CtV l yX4_pass (wsU yX4_pass cX4_pass 2 none) (rmK 3) D G ad sz [.ref (ad 24), .int a1] st res := by
  refine Met.ofW (cc := cX4_pass) (maxL := 2) (ret := none) (by decide) rfl ?_
  intro p e s m args below meth c s₁ B hml hv
  obtain ⟨rfl, hsz, hP, hK, hSt⟩ := hv
  have hts := atoms_spec (ws := wsU yX4_pass cX4_pass 2 none) B.pre
  have C : Cx p s m _ meth c cX4_pass 2 wsL_law RX4 none D G ad := ⟨B.exec, B.bytes, hml, findClass_of_methodNamed B.named, fun w h => hts w (List.mem_cons_of_mem _ h), B.returns, B.notSynchronized, hK, had, hSt⟩
  subst hsz
  have hl := lv_entry ([.ref (ad 24), .int a1]) (n := 2) (Nat.le_of_ble_eq_true rfl)
  rw [lg_entry_eq]
  generalize (lg_sl ([.ref (ad 24), .int a1]) ++ List.replicate (2 - (lg_sl ([.ref (ad 24), .int a1])).length) Slot.unset).toArray = ls at hl ⊢
  exact wX4_pass_s0 C n  a1   st res hf s.heap [] ls (lv_sub hl [0, 1] rfl) hP va_S.rf
section
variable {p : Program} {l : Launch} {e : Env} {s : State} {m : MethodId} {args : Array Value} {below : List Frame} {meth : Method} {c : Code} {D : va_G} {G : G3} {ad : Nat → Nat}
def fX4_below_s99 (n : Nat)    (st : St) : Option (Unit × St) := some ((), st)
set_option maxHeartbeats 4000000 in
set_option maxRecDepth 100000 in
theorem wX4_below_s99 (C : Cx p s m args meth c cX4_below 2 wsL_law RX4 none D G ad) (n : Nat)      (st : St) (res : (Unit × St))  (hf : fX4_below_s99 n    st = some res) : At p l e (rmK 3) s m args below meth c D G ad (MQV D G ad below args s res) 2 st [] 99 [] := by
  obtain ⟨hx, hb, hml, hown, hts, hr, hlk, hK, had, hSt⟩ := id C
  intro H locs ls hl hP hS
  unfold fX4_below_s99 at hf
  exact g_vret hx hb hr hlk hP hS dX4_below_99 hf
def fX4_below_s84 (n : Nat)    (st : St) : Option (Unit × St) := (fX2_becomeProduct n 34 34 33 st).bind (fun q => fX4_below_s99 n q.2)
set_option maxHeartbeats 4000000 in
set_option maxRecDepth 100000 in
theorem wX4_below_s84 (C : Cx p s m args meth c cX4_below 2 wsL_law RX4 none D G ad) (n : Nat)      (st : St) (res : (Unit × St))  (hf : fX4_below_s84 n    st = some res) : At p l e (rmK 3) s m args below meth c D G ad (MQV D G ad below args s res) 2 st [(0, .ref (ad 24))] 84 [] := by
  obtain ⟨hx, hb, hml, hown, hts, hr, hlk, hK, had, hSt⟩ := id C
  intro H locs ls hl hP hS
  unfold fX4_below_s84 at hf
  refine lv_aload_n hx hb dX4_below_84 rfl (lv_at hl 0 rfl) ?_
  refine g_getR hx hb hts inlX4 hown hK hP 24 ct_24 rfl 9 (by decide) (hts _ wm_5_11) rfl dX4_below_85 ?_
  refine lv_aload_n hx hb dX4_below_88 rfl (lv_at hl 0 rfl) ?_
  refine g_getR hx hb hts inlX4 hown hK hP 24 ct_24 rfl 9 (by decide) (hts _ wm_5_11) rfl dX4_below_89 ?_
  refine lv_aload_n hx hb dX4_below_92 rfl (lv_at hl 0 rfl) ?_
  refine g_getR hx hb hts inlX4 hown hK hP 24 ct_24 rfl 8 (by decide) (hts _ wm_5_10) rfl dX4_below_93 ?_
  obtain ⟨q, hq, hf⟩ := bd hf
  refine gcV_v (k := 2) (o := 34) (As := [.ref (ad 34), .ref (ad 33)]) (rest := []) hx hb hml hown hts hK hSt hP hS hl.1 (goodV wm_36_1 wm_36_2 wm_36_3 wm_2_15 wm_36_4) okX2_becomeProduct ct_34 rfl rfl (Nat.le_of_ble_eq_true rfl) (Nat.le_of_ble_eq_true rfl) rfl rfl (Nat.le_of_ble_eq_true rfl) dX4_below_96 (kX2_becomeProduct l D G ad had n 34 34 33 isFr_lit_34 isFr_lit_34 isFr_lit_33  st q hq) (fun H locs hP hS => ?_)
  exact wX4_below_s99 C n q.2 res hf H locs ls (lv_sub hl [] rfl) hP hS
def fX4_below_s81 (n : Nat)    (st : St) : Option (Unit × St) := fX4_below_s99 n st
set_option maxHeartbeats 4000000 in
set_option maxRecDepth 100000 in
theorem wX4_below_s81 (C : Cx p s m args meth c cX4_below 2 wsL_law RX4 none D G ad) (n : Nat)      (st : St) (res : (Unit × St))  (hf : fX4_below_s81 n    st = some res) : At p l e (rmK 3) s m args below meth c D G ad (MQV D G ad below args s res) 2 st [] 81 [] := by
  obtain ⟨hx, hb, hml, hown, hts, hr, hlk, hK, had, hSt⟩ := id C
  intro H locs ls hl hP hS
  unfold fX4_below_s81 at hf
  refine lv_goto (tgt := 99) hx hb dX4_below_81 (by decide) ?_
  exact wX4_below_s99 C n st res hf H locs ls (lv_sub hl [] rfl) hP hS
def fX4_below_s66 (n : Nat)    (st : St) : Option (Unit × St) := fX4_below_s81 n (setJ st 34 0 (-(st.2 34 0)))
set_option maxHeartbeats 4000000 in
set_option maxRecDepth 100000 in
theorem wX4_below_s66 (C : Cx p s m args meth c cX4_below 2 wsL_law RX4 none D G ad) (n : Nat)      (st : St) (res : (Unit × St))  (hf : fX4_below_s66 n    st = some res) : At p l e (rmK 3) s m args below meth c D G ad (MQV D G ad below args s res) 2 st [(0, .ref (ad 24))] 66 [] := by
  obtain ⟨hx, hb, hml, hown, hts, hr, hlk, hK, had, hSt⟩ := id C
  intro H locs ls hl hP hS
  unfold fX4_below_s66 at hf
  refine lv_aload_n hx hb dX4_below_66 rfl (lv_at hl 0 rfl) ?_
  refine g_getR hx hb hts inlX4 hown hK hP 24 ct_24 rfl 9 (by decide) (hts _ wm_5_11) rfl dX4_below_67 ?_
  refine lv_aload_n hx hb dX4_below_70 rfl (lv_at hl 0 rfl) ?_
  refine g_getR hx hb hts inlX4 hown hK hP 24 ct_24 rfl 9 (by decide) (hts _ wm_5_11) rfl dX4_below_71 ?_
  refine g_getJ hx hb hts inlX2 hown hK hP 34 ct_34 rfl 0 (by decide) (hts _ wm_5_13) rfl dX4_below_74 ?_
  refine lv_lneg hx hb dX4_below_77 ?_
  refine g_putJ hx hb hts inlX2 tyX2_ok nmX2 hown hK had hP hS 34 ct_34 rfl 0 (by decide) (hts _ wm_5_13) rfl rfl rfl dX4_below_78 (fun H locs hP hS => ?_)
  exact wX4_below_s81 C n (setJ st 34 0 (-(st.2 34 0))) res hf H locs ls (lv_sub hl [] rfl) hP hS
def fX4_below_s51 (n : Nat)    (st : St) : Option (Unit × St) := (fX2_becomeSum n 34 34 33 st).bind (fun q => fX4_below_s66 n q.2)
set_option maxHeartbeats 4000000 in
set_option maxRecDepth 100000 in
theorem wX4_below_s51 (C : Cx p s m args meth c cX4_below 2 wsL_law RX4 none D G ad) (n : Nat)      (st : St) (res : (Unit × St))  (hf : fX4_below_s51 n    st = some res) : At p l e (rmK 3) s m args below meth c D G ad (MQV D G ad below args s res) 2 st [(0, .ref (ad 24))] 51 [] := by
  obtain ⟨hx, hb, hml, hown, hts, hr, hlk, hK, had, hSt⟩ := id C
  intro H locs ls hl hP hS
  unfold fX4_below_s51 at hf
  refine lv_aload_n hx hb dX4_below_51 rfl (lv_at hl 0 rfl) ?_
  refine g_getR hx hb hts inlX4 hown hK hP 24 ct_24 rfl 9 (by decide) (hts _ wm_5_11) rfl dX4_below_52 ?_
  refine lv_aload_n hx hb dX4_below_55 rfl (lv_at hl 0 rfl) ?_
  refine g_getR hx hb hts inlX4 hown hK hP 24 ct_24 rfl 9 (by decide) (hts _ wm_5_11) rfl dX4_below_56 ?_
  refine lv_aload_n hx hb dX4_below_59 rfl (lv_at hl 0 rfl) ?_
  refine g_getR hx hb hts inlX4 hown hK hP 24 ct_24 rfl 8 (by decide) (hts _ wm_5_10) rfl dX4_below_60 ?_
  obtain ⟨q, hq, hf⟩ := bd hf
  refine gcV_v (k := 2) (o := 34) (As := [.ref (ad 34), .ref (ad 33)]) (rest := []) hx hb hml hown hts hK hSt hP hS hl.1 (goodV wm_36_5 wm_36_6 wm_36_7 wm_2_15 wm_36_8) okX2_becomeSum ct_34 rfl rfl (Nat.le_of_ble_eq_true rfl) (Nat.le_of_ble_eq_true rfl) rfl rfl (Nat.le_of_ble_eq_true rfl) dX4_below_63 (kX2_becomeSum l D G ad had n 34 34 33 isFr_lit_34 isFr_lit_34 isFr_lit_33  st q hq) (fun H locs hP hS => ?_)
  exact wX4_below_s66 C n q.2 res hf H locs ls (lv_sub hl [0] rfl) hP hS
def fX4_below_s46 (n : Nat)   (v1 : Int32) (st : St) : Option (Unit × St) := if v1 = 1 then fX4_below_s51 n st else fX4_below_s84 n st
set_option maxHeartbeats 4000000 in
set_option maxRecDepth 100000 in
theorem wX4_below_s46 (C : Cx p s m args meth c cX4_below 2 wsL_law RX4 none D G ad) (n : Nat)   (v1 : Int32)   (st : St) (res : (Unit × St))  (hf : fX4_below_s46 n   v1 st = some res) : At p l e (rmK 3) s m args below meth c D G ad (MQV D G ad below args s res) 2 st [(0, .ref (ad 24)), (1, .int v1)] 46 [] := by
  obtain ⟨hx, hb, hml, hown, hts, hr, hlk, hK, had, hSt⟩ := id C
  intro H locs ls hl hP hS
  unfold fX4_below_s46 at hf
  refine lv_iload_n hx hb dX4_below_46 rfl (lv_at hl 1 rfl) ?_
  refine lv_iconst (v := 1) hx hb dX4_below_47 (by decide) ?_
  refine lv_icmp_ne (tgt := 84) hx hb dX4_below_48 (by decide) (fun q => ?_) (fun q => ?_)
  · exact wX4_below_s84 C n st res (ie hf q) H locs ls (lv_sub hl [0] rfl) hP hS
  · exact wX4_below_s51 C n st res (it hf q) H locs ls (lv_sub hl [0] rfl) hP hS
def fX4_below_s43 (n : Nat)    (st : St) : Option (Unit × St) := fX4_below_s99 n st
set_option maxHeartbeats 4000000 in
set_option maxRecDepth 100000 in
theorem wX4_below_s43 (C : Cx p s m args meth c cX4_below 2 wsL_law RX4 none D G ad) (n : Nat)      (st : St) (res : (Unit × St))  (hf : fX4_below_s43 n    st = some res) : At p l e (rmK 3) s m args below meth c D G ad (MQV D G ad below args s res) 2 st [] 43 [] := by
  obtain ⟨hx, hb, hml, hown, hts, hr, hlk, hK, had, hSt⟩ := id C
  intro H locs ls hl hP hS
  unfold fX4_below_s43 at hf
  refine lv_goto (tgt := 99) hx hb dX4_below_43 (by decide) ?_
  exact wX4_below_s99 C n st res hf H locs ls (lv_sub hl [] rfl) hP hS
def fX4_below_s34 (n : Nat)    (st : St) : Option (Unit × St) := (fX2_become n 34 1 1 st).bind (fun q => fX4_below_s43 n q.2)
set_option maxHeartbeats 4000000 in
set_option maxRecDepth 100000 in
theorem wX4_below_s34 (C : Cx p s m args meth c cX4_below 2 wsL_law RX4 none D G ad) (n : Nat)      (st : St) (res : (Unit × St))  (hf : fX4_below_s34 n    st = some res) : At p l e (rmK 3) s m args below meth c D G ad (MQV D G ad below args s res) 2 st [(0, .ref (ad 24))] 34 [] := by
  obtain ⟨hx, hb, hml, hown, hts, hr, hlk, hK, had, hSt⟩ := id C
  intro H locs ls hl hP hS
  unfold fX4_below_s34 at hf
  refine lv_aload_n hx hb dX4_below_34 rfl (lv_at hl 0 rfl) ?_
  refine g_getR hx hb hts inlX4 hown hK hP 24 ct_24 rfl 9 (by decide) (hts _ wm_5_11) rfl dX4_below_35 ?_
  refine lv_lconst (v := 1) hx hb dX4_below_38 (by decide) ?_
  refine lv_lconst (v := 1) hx hb dX4_below_39 (by decide) ?_
  obtain ⟨q, hq, hf⟩ := bd hf
  refine gcV_v (k := 1) (o := 34) (As := [.long 1, .long 1]) (rest := []) hx hb hml hown hts hK hSt hP hS hl.1 (goodV wm_35_14 wm_33_6 wm_33_7 wm_2_15 wm_33_8) okX2_become ct_34 rfl rfl (Nat.le_of_ble_eq_true rfl) (Nat.le_of_ble_eq_true rfl) rfl rfl (Nat.le_of_ble_eq_true rfl) dX4_below_40 (kX2_become l D G ad had n 34 isFr_lit_34 1 1 st q hq) (fun H locs hP hS => ?_)
  exact wX4_below_s43 C n q.2 res hf H locs ls (lv_sub hl [] rfl) hP hS
def fX4_below_s30 (n : Nat)   (v1 : Int32) (st : St) : Option (Unit × St) := if v1 = 0 then fX4_below_s34 n st else fX4_below_s46 n v1 st
set_option maxHeartbeats 4000000 in
set_option maxRecDepth 100000 in
theorem wX4_below_s30 (C : Cx p s m args meth c cX4_below 2 wsL_law RX4 none D G ad) (n : Nat)   (v1 : Int32)   (st : St) (res : (Unit × St))  (hf : fX4_below_s30 n   v1 st = some res) : At p l e (rmK 3) s m args below meth c D G ad (MQV D G ad below args s res) 2 st [(0, .ref (ad 24)), (1, .int v1)] 30 [] := by
  obtain ⟨hx, hb, hml, hown, hts, hr, hlk, hK, had, hSt⟩ := id C
  intro H locs ls hl hP hS
  unfold fX4_below_s30 at hf
  refine lv_iload_n hx hb dX4_below_30 rfl (lv_at hl 1 rfl) ?_
  refine lv_if_ne (tgt := 46) hx hb dX4_below_31 (by decide) (fun q => ?_) (fun q => ?_)
  · exact wX4_below_s46 C n v1 st res (ie hf q) H locs ls (lv_sub hl [0, 1] rfl) hP hS
  · exact wX4_below_s34 C n st res (it hf q) H locs ls (lv_sub hl [0] rfl) hP hS
def fX4_below_s15 (n : Nat)   (v1 : Int32) (st : St) : Option (Unit × St) := (fX2_becomeDifference n 33 28 26 st).bind (fun q => fX4_below_s30 n v1 q.2)
set_option maxHeartbeats 4000000 in
set_option maxRecDepth 100000 in
theorem wX4_below_s15 (C : Cx p s m args meth c cX4_below 2 wsL_law RX4 none D G ad) (n : Nat)   (v1 : Int32)   (st : St) (res : (Unit × St))  (hf : fX4_below_s15 n   v1 st = some res) : At p l e (rmK 3) s m args below meth c D G ad (MQV D G ad below args s res) 2 st [(0, .ref (ad 24)), (1, .int v1)] 15 [] := by
  obtain ⟨hx, hb, hml, hown, hts, hr, hlk, hK, had, hSt⟩ := id C
  intro H locs ls hl hP hS
  unfold fX4_below_s15 at hf
  refine lv_aload_n hx hb dX4_below_15 rfl (lv_at hl 0 rfl) ?_
  refine g_getR hx hb hts inlX4 hown hK hP 24 ct_24 rfl 8 (by decide) (hts _ wm_5_10) rfl dX4_below_16 ?_
  refine lv_aload_n hx hb dX4_below_19 rfl (lv_at hl 0 rfl) ?_
  refine g_getR hx hb hts inlX4 hown hK hP 24 ct_24 rfl 3 (by decide) (hts _ wm_5_5) rfl dX4_below_20 ?_
  refine lv_aload_n hx hb dX4_below_23 rfl (lv_at hl 0 rfl) ?_
  refine g_getR hx hb hts inlX4 hown hK hP 24 ct_24 rfl 1 (by decide) (hts _ wm_5_3) rfl dX4_below_24 ?_
  obtain ⟨q, hq, hf⟩ := bd hf
  refine gcV_v (k := 2) (o := 33) (As := [.ref (ad 28), .ref (ad 26)]) (rest := []) hx hb hml hown hts hK hSt hP hS hl.1 (goodV wm_35_20 wm_35_21 wm_35_22 wm_2_15 wm_35_23) okX2_becomeDifference ct_33 rfl rfl (Nat.le_of_ble_eq_true rfl) (Nat.le_of_ble_eq_true rfl) rfl rfl (Nat.le_of_ble_eq_true rfl) dX4_below_27 (kX2_becomeDifference l D G ad had n 33 28 26 isFr_lit_33 isFr_lit_28 isFr_lit_26  st q hq) (fun H locs hP hS => ?_)
  exact wX4_below_s30 C n v1 q.2 res hf H locs ls (lv_sub hl [0, 1] rfl) hP hS
def fX4_below_s0 (n : Nat)   (v1 : Int32) (st : St) : Option (Unit × St) := (fX2_becomeDifference n 34 28 25 st).bind (fun q => fX4_below_s15 n v1 q.2)
set_option maxHeartbeats 4000000 in
set_option maxRecDepth 100000 in
theorem wX4_below_s0 (C : Cx p s m args meth c cX4_below 2 wsL_law RX4 none D G ad) (n : Nat)   (v1 : Int32)   (st : St) (res : (Unit × St))  (hf : fX4_below_s0 n   v1 st = some res) : At p l e (rmK 3) s m args below meth c D G ad (MQV D G ad below args s res) 2 st [(0, .ref (ad 24)), (1, .int v1)] 0 [] := by
  obtain ⟨hx, hb, hml, hown, hts, hr, hlk, hK, had, hSt⟩ := id C
  intro H locs ls hl hP hS
  unfold fX4_below_s0 at hf
  refine lv_aload_n hx hb dX4_below_0 rfl (lv_at hl 0 rfl) ?_
  refine g_getR hx hb hts inlX4 hown hK hP 24 ct_24 rfl 9 (by decide) (hts _ wm_5_11) rfl dX4_below_1 ?_
  refine lv_aload_n hx hb dX4_below_4 rfl (lv_at hl 0 rfl) ?_
  refine g_getR hx hb hts inlX4 hown hK hP 24 ct_24 rfl 3 (by decide) (hts _ wm_5_5) rfl dX4_below_5 ?_
  refine lv_aload_n hx hb dX4_below_8 rfl (lv_at hl 0 rfl) ?_
  refine g_getR hx hb hts inlX4 hown hK hP 24 ct_24 rfl 0 (by decide) (hts _ wm_5_2) rfl dX4_below_9 ?_
  obtain ⟨q, hq, hf⟩ := bd hf
  refine gcV_v (k := 2) (o := 34) (As := [.ref (ad 28), .ref (ad 25)]) (rest := []) hx hb hml hown hts hK hSt hP hS hl.1 (goodV wm_35_20 wm_35_21 wm_35_22 wm_2_15 wm_35_23) okX2_becomeDifference ct_34 rfl rfl (Nat.le_of_ble_eq_true rfl) (Nat.le_of_ble_eq_true rfl) rfl rfl (Nat.le_of_ble_eq_true rfl) dX4_below_12 (kX2_becomeDifference l D G ad had n 34 28 25 isFr_lit_34 isFr_lit_28 isFr_lit_25  st q hq) (fun H locs hP hS => ?_)
  exact wX4_below_s15 C n v1 q.2 res hf H locs ls (lv_sub hl [0, 1] rfl) hP hS
def fX4_below (n : Nat)  (a1 : Int32) (st : St) : Option (Unit × St) := fX4_below_s0 n a1 st
theorem okX4_below : okY yX4_below RX4 1 := by unfold okY; decide +kernel
end
set_option maxRecDepth 100000 in
theorem kX4_below (l : Launch) (D : va_G) (G : G3) (ad : Nat → Nat) (had : Adr ad) (n : Nat)   (a1 : Int32) (st : St) (res : (Unit × St)) (hf : fX4_below n  a1 st = some res) {sz : Nat} : CtV l yX4_below (wsU yX4_below cX4_below 2 none) (rmK 3) D G ad sz [.ref (ad 24), .int a1] st res := by
  refine Met.ofW (cc := cX4_below) (maxL := 2) (ret := none) (by decide) rfl ?_
  intro p e s m args below meth c s₁ B hml hv
  obtain ⟨rfl, hsz, hP, hK, hSt⟩ := hv
  have hts := atoms_spec (ws := wsU yX4_below cX4_below 2 none) B.pre
  have C : Cx p s m _ meth c cX4_below 2 wsL_law RX4 none D G ad := ⟨B.exec, B.bytes, hml, findClass_of_methodNamed B.named, fun w h => hts w (List.mem_cons_of_mem _ h), B.returns, B.notSynchronized, hK, had, hSt⟩
  subst hsz
  have hl := lv_entry ([.ref (ad 24), .int a1]) (n := 2) (Nat.le_of_ble_eq_true rfl)
  rw [lg_entry_eq]
  generalize (lg_sl ([.ref (ad 24), .int a1]) ++ List.replicate (2 - (lg_sl ([.ref (ad 24), .int a1])).length) Slot.unset).toArray = ls at hl ⊢
  exact wX4_below_s0 C n  a1   st res hf s.heap [] ls (lv_sub hl [0, 1] rfl) hP va_S.rf
section
variable {p : Program} {l : Launch} {e : Env} {s : State} {m : MethodId} {args : Array Value} {below : List Frame} {meth : Method} {c : Code} {D : va_G} {G : G3} {ad : Nat → Nat}
def fX4_above_s59 (n : Nat)    (st : St) : Option (Unit × St) := some ((), st)
set_option maxHeartbeats 4000000 in
set_option maxRecDepth 100000 in
theorem wX4_above_s59 (C : Cx p s m args meth c cX4_above 3 wsL_law RX4 none D G ad) (n : Nat)      (st : St) (res : (Unit × St))  (hf : fX4_above_s59 n    st = some res) : At p l e (rmK 4) s m args below meth c D G ad (MQV D G ad below args s res) 3 st [] 59 [] := by
  obtain ⟨hx, hb, hml, hown, hts, hr, hlk, hK, had, hSt⟩ := id C
  intro H locs ls hl hP hS
  unfold fX4_above_s59 at hf
  exact g_vret hx hb hr hlk hP hS dX4_above_59 hf
def fX4_above_s53 (n : Nat) (K6 : Int32 → Int32 → St → Option (Unit × St))  (v1 : Int32) (v2 : Int32) (st : St) : Option (Unit × St) := K6 v1 (v2 + 1) st
set_option maxHeartbeats 4000000 in
set_option maxRecDepth 100000 in
theorem wX4_above_s53 (C : Cx p s m args meth c cX4_above 3 wsL_law RX4 none D G ad) (n : Nat) (K6 : Int32 → Int32 → St → Option (Unit × St))  (v1 : Int32) (v2 : Int32)   (st : St) (res : (Unit × St)) (hK6 : ∀ (v1 : Int32) (v2 : Int32) (st : St), K6 v1 v2 st = some res → At p l e (rmK 4) s m args below meth c D G ad (MQV D G ad below args s res) 3 st [(0, .ref (ad 24)), (1, .int v1), (2, .int v2)] 6 []) (hf : fX4_above_s53 n K6  v1 v2 st = some res) : At p l e (rmK 4) s m args below meth c D G ad (MQV D G ad below args s res) 3 st [(0, .ref (ad 24)), (1, .int v1), (2, .int v2)] 53 [] := by
  obtain ⟨hx, hb, hml, hown, hts, hr, hlk, hK, had, hSt⟩ := id C
  intro H locs ls hl hP hS
  unfold fX4_above_s53 at hf
  refine lv_iinc (v := v2 + 1) (lv' := [(2, .int (v2 + 1)), (0, .ref (ad 24)), (1, .int v1)]) hx hb dX4_above_53 hl (k := 2) rfl rfl (by decide) rfl (fun ls hl => ?_)
  refine lv_goto (tgt := 6) hx hb dX4_above_56 (by decide) ?_
  exact hK6 v1 (v2 + 1)  st hf H locs ls (lv_sub hl [1, 2, 0] rfl) hP hS
def fX4_above_s38 (n : Nat) (K6 : Int32 → Int32 → St → Option (Unit × St))  (v1 : Int32) (v2 : Int32) (st : St) : Option (Unit × St) := (fX2_becomeSum n 35 35 33 st).bind (fun q => fX4_above_s53 n K6 v1 v2 q.2)
set_option maxHeartbeats 4000000 in
set_option maxRecDepth 100000 in
theorem wX4_above_s38 (C : Cx p s m args meth c cX4_above 3 wsL_law RX4 none D G ad) (n : Nat) (K6 : Int32 → Int32 → St → Option (Unit × St))  (v1 : Int32) (v2 : Int32)   (st : St) (res : (Unit × St)) (hK6 : ∀ (v1 : Int32) (v2 : Int32) (st : St), K6 v1 v2 st = some res → At p l e (rmK 4) s m args below meth c D G ad (MQV D G ad below args s res) 3 st [(0, .ref (ad 24)), (1, .int v1), (2, .int v2)] 6 []) (hf : fX4_above_s38 n K6  v1 v2 st = some res) : At p l e (rmK 4) s m args below meth c D G ad (MQV D G ad below args s res) 3 st [(0, .ref (ad 24)), (1, .int v1), (2, .int v2)] 38 [] := by
  obtain ⟨hx, hb, hml, hown, hts, hr, hlk, hK, had, hSt⟩ := id C
  intro H locs ls hl hP hS
  unfold fX4_above_s38 at hf
  refine lv_aload_n hx hb dX4_above_38 rfl (lv_at hl 0 rfl) ?_
  refine g_getR hx hb hts inlX4 hown hK hP 24 ct_24 rfl 10 (by decide) (hts _ wm_5_12) rfl dX4_above_39 ?_
  refine lv_aload_n hx hb dX4_above_42 rfl (lv_at hl 0 rfl) ?_
  refine g_getR hx hb hts inlX4 hown hK hP 24 ct_24 rfl 10 (by decide) (hts _ wm_5_12) rfl dX4_above_43 ?_
  refine lv_aload_n hx hb dX4_above_46 rfl (lv_at hl 0 rfl) ?_
  refine g_getR hx hb hts inlX4 hown hK hP 24 ct_24 rfl 8 (by decide) (hts _ wm_5_10) rfl dX4_above_47 ?_
  obtain ⟨q, hq, hf⟩ := bd hf
  refine gcV_v (k := 2) (o := 35) (As := [.ref (ad 35), .ref (ad 33)]) (rest := []) hx hb hml hown hts hK hSt hP hS hl.1 (goodV wm_36_5 wm_36_6 wm_36_7 wm_2_15 wm_36_8) okX2_becomeSum ct_35 rfl rfl (Nat.le_of_ble_eq_true rfl) (Nat.le_of_ble_eq_true rfl) rfl rfl (Nat.le_of_ble_eq_true rfl) dX4_above_50 (kX2_becomeSum l D G ad had n 35 35 33 isFr_lit_35 isFr_lit_35 isFr_lit_33  st q hq) (fun H locs hP hS => ?_)
  exact wX4_above_s53 C n K6 v1 v2 q.2 res hK6 hf H locs ls (lv_sub hl [0, 1, 2] rfl) hP hS
def fX4_above_s23 (n : Nat) (K6 : Int32 → Int32 → St → Option (Unit × St))  (v1 : Int32) (v2 : Int32) (st : St) : Option (Unit × St) := (fX2_becomeProduct n 33 32 34 st).bind (fun q => fX4_above_s38 n K6 v1 v2 q.2)
set_option maxHeartbeats 4000000 in
set_option maxRecDepth 100000 in
theorem wX4_above_s23 (C : Cx p s m args meth c cX4_above 3 wsL_law RX4 none D G ad) (n : Nat) (K6 : Int32 → Int32 → St → Option (Unit × St))  (v1 : Int32) (v2 : Int32)   (st : St) (res : (Unit × St)) (hK6 : ∀ (v1 : Int32) (v2 : Int32) (st : St), K6 v1 v2 st = some res → At p l e (rmK 4) s m args below meth c D G ad (MQV D G ad below args s res) 3 st [(0, .ref (ad 24)), (1, .int v1), (2, .int v2)] 6 []) (hf : fX4_above_s23 n K6  v1 v2 st = some res) : At p l e (rmK 4) s m args below meth c D G ad (MQV D G ad below args s res) 3 st [(0, .ref (ad 24)), (1, .int v1), (2, .int v2)] 23 [] := by
  obtain ⟨hx, hb, hml, hown, hts, hr, hlk, hK, had, hSt⟩ := id C
  intro H locs ls hl hP hS
  unfold fX4_above_s23 at hf
  refine lv_aload_n hx hb dX4_above_23 rfl (lv_at hl 0 rfl) ?_
  refine g_getR hx hb hts inlX4 hown hK hP 24 ct_24 rfl 8 (by decide) (hts _ wm_5_10) rfl dX4_above_24 ?_
  refine lv_aload_n hx hb dX4_above_27 rfl (lv_at hl 0 rfl) ?_
  refine g_getR hx hb hts inlX4 hown hK hP 24 ct_24 rfl 7 (by decide) (hts _ wm_5_9) rfl dX4_above_28 ?_
  refine lv_aload_n hx hb dX4_above_31 rfl (lv_at hl 0 rfl) ?_
  refine g_getR hx hb hts inlX4 hown hK hP 24 ct_24 rfl 9 (by decide) (hts _ wm_5_11) rfl dX4_above_32 ?_
  obtain ⟨q, hq, hf⟩ := bd hf
  refine gcV_v (k := 2) (o := 33) (As := [.ref (ad 32), .ref (ad 34)]) (rest := []) hx hb hml hown hts hK hSt hP hS hl.1 (goodV wm_36_1 wm_36_2 wm_36_3 wm_2_15 wm_36_4) okX2_becomeProduct ct_33 rfl rfl (Nat.le_of_ble_eq_true rfl) (Nat.le_of_ble_eq_true rfl) rfl rfl (Nat.le_of_ble_eq_true rfl) dX4_above_35 (kX2_becomeProduct l D G ad had n 33 32 34 isFr_lit_33 isFr_lit_32 isFr_lit_34  st q hq) (fun H locs hP hS => ?_)
  exact wX4_above_s38 C n K6 v1 v2 q.2 res hK6 hf H locs ls (lv_sub hl [0, 1, 2] rfl) hP hS
def fX4_above_s16 (n : Nat) (K6 : Int32 → Int32 → St → Option (Unit × St))  (v1 : Int32) (v2 : Int32) (st : St) : Option (Unit × St) := (fX4_below n (v1 - v2) st).bind (fun q => fX4_above_s23 n K6 v1 v2 q.2)
set_option maxHeartbeats 4000000 in
set_option maxRecDepth 100000 in
theorem wX4_above_s16 (C : Cx p s m args meth c cX4_above 3 wsL_law RX4 none D G ad) (n : Nat) (K6 : Int32 → Int32 → St → Option (Unit × St))  (v1 : Int32) (v2 : Int32)   (st : St) (res : (Unit × St)) (hK6 : ∀ (v1 : Int32) (v2 : Int32) (st : St), K6 v1 v2 st = some res → At p l e (rmK 4) s m args below meth c D G ad (MQV D G ad below args s res) 3 st [(0, .ref (ad 24)), (1, .int v1), (2, .int v2)] 6 []) (hf : fX4_above_s16 n K6  v1 v2 st = some res) : At p l e (rmK 4) s m args below meth c D G ad (MQV D G ad below args s res) 3 st [(0, .ref (ad 24)), (1, .int v1), (2, .int v2)] 16 [] := by
  obtain ⟨hx, hb, hml, hown, hts, hr, hlk, hK, had, hSt⟩ := id C
  intro H locs ls hl hP hS
  unfold fX4_above_s16 at hf
  refine lv_aload_n hx hb dX4_above_16 rfl (lv_at hl 0 rfl) ?_
  refine lv_iload_n hx hb dX4_above_17 rfl (lv_at hl 1 rfl) ?_
  refine lv_iload_n hx hb dX4_above_18 rfl (lv_at hl 2 rfl) ?_
  refine lv_isub hx hb dX4_above_19 ?_
  obtain ⟨q, hq, hf⟩ := bd hf
  refine gcV_v (k := 3) (o := 24) (As := [.int (v1 - v2)]) (rest := []) hx hb hml hown hts hK hSt hP hS hl.1 (goodV wm_38_1 wm_38_2 wm_38_3 wm_2_11 wm_38_4) okX4_below ct_24 rfl rfl (Nat.le_of_ble_eq_true rfl) (Nat.le_of_ble_eq_true rfl) rfl rfl (Nat.le_of_ble_eq_true rfl) dX4_above_20 (kX4_below l D G ad had n  (v1 - v2) st q hq) (fun H locs hP hS => ?_)
  exact wX4_above_s23 C n K6 v1 v2 q.2 res hK6 hf H locs ls (lv_sub hl [0, 1, 2] rfl) hP hS
def fX4_above_s11 (n : Nat) (K6 : Int32 → Int32 → St → Option (Unit × St))  (v1 : Int32) (v2 : Int32) (st : St) : Option (Unit × St) := (fX4_pass n v2 st).bind (fun q => fX4_above_s16 n K6 v1 v2 q.2)
set_option maxHeartbeats 4000000 in
set_option maxRecDepth 100000 in
theorem wX4_above_s11 (C : Cx p s m args meth c cX4_above 3 wsL_law RX4 none D G ad) (n : Nat) (K6 : Int32 → Int32 → St → Option (Unit × St))  (v1 : Int32) (v2 : Int32)   (st : St) (res : (Unit × St)) (hK6 : ∀ (v1 : Int32) (v2 : Int32) (st : St), K6 v1 v2 st = some res → At p l e (rmK 4) s m args below meth c D G ad (MQV D G ad below args s res) 3 st [(0, .ref (ad 24)), (1, .int v1), (2, .int v2)] 6 []) (hf : fX4_above_s11 n K6  v1 v2 st = some res) : At p l e (rmK 4) s m args below meth c D G ad (MQV D G ad below args s res) 3 st [(0, .ref (ad 24)), (1, .int v1), (2, .int v2)] 11 [] := by
  obtain ⟨hx, hb, hml, hown, hts, hr, hlk, hK, had, hSt⟩ := id C
  intro H locs ls hl hP hS
  unfold fX4_above_s11 at hf
  refine lv_aload_n hx hb dX4_above_11 rfl (lv_at hl 0 rfl) ?_
  refine lv_iload_n hx hb dX4_above_12 rfl (lv_at hl 2 rfl) ?_
  obtain ⟨q, hq, hf⟩ := bd hf
  refine gcV_v (k := 3) (o := 24) (As := [.int v2]) (rest := []) hx hb hml hown hts hK hSt hP hS hl.1 (goodV wm_38_0 wm_35_16 wm_35_17 wm_2_11 wm_35_18) okX4_pass ct_24 rfl rfl (Nat.le_of_ble_eq_true rfl) (Nat.le_of_ble_eq_true rfl) rfl rfl (Nat.le_of_ble_eq_true rfl) dX4_above_13 (kX4_pass l D G ad had n  v2 st q hq) (fun H locs hP hS => ?_)
  exact wX4_above_s16 C n K6 v1 v2 q.2 res hK6 hf H locs ls (lv_sub hl [0, 1, 2] rfl) hP hS
def fX4_above_s6 (n : Nat) (K6 : Int32 → Int32 → St → Option (Unit × St))  (v1 : Int32) (v2 : Int32) (st : St) : Option (Unit × St) := if v1 < v2 then fX4_above_s59 n st else fX4_above_s11 n K6 v1 v2 st
set_option maxHeartbeats 4000000 in
set_option maxRecDepth 100000 in
theorem wX4_above_s6 (C : Cx p s m args meth c cX4_above 3 wsL_law RX4 none D G ad) (n : Nat) (K6 : Int32 → Int32 → St → Option (Unit × St))  (v1 : Int32) (v2 : Int32)   (st : St) (res : (Unit × St)) (hK6 : ∀ (v1 : Int32) (v2 : Int32) (st : St), K6 v1 v2 st = some res → At p l e (rmK 4) s m args below meth c D G ad (MQV D G ad below args s res) 3 st [(0, .ref (ad 24)), (1, .int v1), (2, .int v2)] 6 []) (hf : fX4_above_s6 n K6  v1 v2 st = some res) : At p l e (rmK 4) s m args below meth c D G ad (MQV D G ad below args s res) 3 st [(0, .ref (ad 24)), (1, .int v1), (2, .int v2)] 6 [] := by
  obtain ⟨hx, hb, hml, hown, hts, hr, hlk, hK, had, hSt⟩ := id C
  intro H locs ls hl hP hS
  unfold fX4_above_s6 at hf
  refine lv_iload_n hx hb dX4_above_6 rfl (lv_at hl 2 rfl) ?_
  refine lv_iload_n hx hb dX4_above_7 rfl (lv_at hl 1 rfl) ?_
  refine lv_icmp_gt (tgt := 59) hx hb dX4_above_8 (by decide) (fun q => ?_) (fun q => ?_)
  · exact wX4_above_s59 C n st res (it hf q) H locs ls (lv_sub hl [] rfl) hP hS
  · exact wX4_above_s11 C n K6 v1 v2 st res hK6 (ie hf q) H locs ls (lv_sub hl [0, 1, 2] rfl) hP hS
def fX4_above_L6 (n : Nat)   : Nat → Int32 → Int32 → St → Option (Unit × St)
  | 0, _, _, _ => none
  | k + 1, v1, v2, st => fX4_above_s6 n (fX4_above_L6 n k)  v1 v2 st
theorem wX4_above_L6 (C : Cx p s m args meth c cX4_above 3 wsL_law RX4 none D G ad) (n : Nat)    (res : (Unit × St))  : ∀ (k : Nat) (v1 : Int32) (v2 : Int32)  (st : St), fX4_above_L6 n k v1 v2 st = some res → At p l e (rmK 4) s m args below meth c D G ad (MQV D G ad below args s res) 3 st [(0, .ref (ad 24)), (1, .int v1), (2, .int v2)] 6 [] := by
  intro k
  induction k with
  | zero => intro v1 v2  st h; exact absurd h (by intro q; cases q)
  | succ k ih => intro v1 v2  st h; exact wX4_above_s6 C n (fX4_above_L6 n k)  v1 v2   st res ih h
def fX4_above_s4 (n : Nat)   (v1 : Int32) (st : St) : Option (Unit × St) := fX4_above_L6 n n v1 0 st
set_option maxHeartbeats 4000000 in
set_option maxRecDepth 100000 in
theorem wX4_above_s4 (C : Cx p s m args meth c cX4_above 3 wsL_law RX4 none D G ad) (n : Nat)   (v1 : Int32)   (st : St) (res : (Unit × St))  (hf : fX4_above_s4 n   v1 st = some res) : At p l e (rmK 4) s m args below meth c D G ad (MQV D G ad below args s res) 3 st [(0, .ref (ad 24)), (1, .int v1)] 4 [] := by
  obtain ⟨hx, hb, hml, hown, hts, hr, hlk, hK, had, hSt⟩ := id C
  intro H locs ls hl hP hS
  unfold fX4_above_s4 at hf
  refine lv_iconst (v := 0) hx hb dX4_above_4 (by decide) ?_
  refine lv_istore_n (lv' := [(2, .int 0), (0, .ref (ad 24)), (1, .int v1)]) hx hb dX4_above_5 rfl hl (by decide) rfl (fun ls hl => ?_)
  exact wX4_above_L6 C n res n v1 0 st hf H locs ls (lv_sub hl [1, 2, 0] rfl) hP hS
def fX4_above_s0 (n : Nat)   (v1 : Int32) (st : St) : Option (Unit × St) := (fX4_begin n st).bind (fun q => fX4_above_s4 n v1 q.2)
set_option maxHeartbeats 4000000 in
set_option maxRecDepth 100000 in
theorem wX4_above_s0 (C : Cx p s m args meth c cX4_above 3 wsL_law RX4 none D G ad) (n : Nat)   (v1 : Int32)   (st : St) (res : (Unit × St))  (hf : fX4_above_s0 n   v1 st = some res) : At p l e (rmK 4) s m args below meth c D G ad (MQV D G ad below args s res) 3 st [(0, .ref (ad 24)), (1, .int v1)] 0 [] := by
  obtain ⟨hx, hb, hml, hown, hts, hr, hlk, hK, had, hSt⟩ := id C
  intro H locs ls hl hP hS
  unfold fX4_above_s0 at hf
  refine lv_aload_n hx hb dX4_above_0 rfl (lv_at hl 0 rfl) ?_
  obtain ⟨q, hq, hf⟩ := bd hf
  refine gcV_v (k := 2) (o := 24) (As := []) (rest := []) hx hb hml hown hts hK hSt hP hS hl.1 (goodV wm_37_23 wm_35_11 wm_35_12 wm_2_11 wm_35_13) okX4_begin ct_24 rfl rfl (Nat.le_of_ble_eq_true rfl) (Nat.le_of_ble_eq_true rfl) rfl rfl (Nat.le_of_ble_eq_true rfl) dX4_above_1 (kX4_begin l D G ad had n   st q hq) (fun H locs hP hS => ?_)
  exact wX4_above_s4 C n v1 q.2 res hf H locs ls (lv_sub hl [0, 1] rfl) hP hS
def fX4_above (n : Nat)  (a1 : Int32) (st : St) : Option (Unit × St) := fX4_above_s0 n a1 st
theorem okX4_above : okY yX4_above RX4 1 := by unfold okY; decide +kernel
end
set_option maxRecDepth 100000 in
theorem kX4_above (l : Launch) (D : va_G) (G : G3) (ad : Nat → Nat) (had : Adr ad) (n : Nat)   (a1 : Int32) (st : St) (res : (Unit × St)) (hf : fX4_above n  a1 st = some res) {sz : Nat} : CtV l yX4_above (wsU yX4_above cX4_above 3 none) (rmK 4) D G ad sz [.ref (ad 24), .int a1] st res := by
  refine Met.ofW (cc := cX4_above) (maxL := 3) (ret := none) (by decide) rfl ?_
  intro p e s m args below meth c s₁ B hml hv
  obtain ⟨rfl, hsz, hP, hK, hSt⟩ := hv
  have hts := atoms_spec (ws := wsU yX4_above cX4_above 3 none) B.pre
  have C : Cx p s m _ meth c cX4_above 3 wsL_law RX4 none D G ad := ⟨B.exec, B.bytes, hml, findClass_of_methodNamed B.named, fun w h => hts w (List.mem_cons_of_mem _ h), B.returns, B.notSynchronized, hK, had, hSt⟩
  subst hsz
  have hl := lv_entry ([.ref (ad 24), .int a1]) (n := 3) (Nat.le_of_ble_eq_true rfl)
  rw [lg_entry_eq]
  generalize (lg_sl ([.ref (ad 24), .int a1]) ++ List.replicate (3 - (lg_sl ([.ref (ad 24), .int a1])).length) Slot.unset).toArray = ls at hl ⊢
  exact wX4_above_s0 C n  a1   st res hf s.heap [] ls (lv_sub hl [0, 1] rfl) hP va_S.rf
section
variable {p : Program} {l : Launch} {e : Env} {s : State} {m : MethodId} {args : Array Value} {below : List Frame} {meth : Method} {c : Code} {D : va_G} {G : G3} {ad : Nat → Nat}
def fX4_loudness_s52 (n : Nat)    (st : St) : Option (Unit × St) := some ((), st)
set_option maxHeartbeats 4000000 in
set_option maxRecDepth 100000 in
theorem wX4_loudness_s52 (C : Cx p s m args meth c cX4_loudness 3 wsL_law RX4 none D G ad) (n : Nat)      (st : St) (res : (Unit × St))  (hf : fX4_loudness_s52 n    st = some res) : At p l e (rmK 4) s m args below meth c D G ad (MQV D G ad below args s res) 3 st [] 52 [] := by
  obtain ⟨hx, hb, hml, hown, hts, hr, hlk, hK, had, hSt⟩ := id C
  intro H locs ls hl hP hS
  unfold fX4_loudness_s52 at hf
  exact g_vret hx hb hr hlk hP hS dX4_loudness_52 hf
def fX4_loudness_s46 (n : Nat) (K6 : Int32 → Int32 → St → Option (Unit × St))  (v1 : Int32) (v2 : Int32) (st : St) : Option (Unit × St) := K6 v1 (v2 + 1) st
set_option maxHeartbeats 4000000 in
set_option maxRecDepth 100000 in
theorem wX4_loudness_s46 (C : Cx p s m args meth c cX4_loudness 3 wsL_law RX4 none D G ad) (n : Nat) (K6 : Int32 → Int32 → St → Option (Unit × St))  (v1 : Int32) (v2 : Int32)   (st : St) (res : (Unit × St)) (hK6 : ∀ (v1 : Int32) (v2 : Int32) (st : St), K6 v1 v2 st = some res → At p l e (rmK 4) s m args below meth c D G ad (MQV D G ad below args s res) 3 st [(0, .ref (ad 24)), (1, .int v1), (2, .int v2)] 6 []) (hf : fX4_loudness_s46 n K6  v1 v2 st = some res) : At p l e (rmK 4) s m args below meth c D G ad (MQV D G ad below args s res) 3 st [(0, .ref (ad 24)), (1, .int v1), (2, .int v2)] 46 [] := by
  obtain ⟨hx, hb, hml, hown, hts, hr, hlk, hK, had, hSt⟩ := id C
  intro H locs ls hl hP hS
  unfold fX4_loudness_s46 at hf
  refine lv_iinc (v := v2 + 1) (lv' := [(2, .int (v2 + 1)), (0, .ref (ad 24)), (1, .int v1)]) hx hb dX4_loudness_46 hl (k := 2) rfl rfl (by decide) rfl (fun ls hl => ?_)
  refine lv_goto (tgt := 6) hx hb dX4_loudness_49 (by decide) ?_
  exact hK6 v1 (v2 + 1)  st hf H locs ls (lv_sub hl [1, 2, 0] rfl) hP hS
def fX4_loudness_s31 (n : Nat) (K6 : Int32 → Int32 → St → Option (Unit × St))  (v1 : Int32) (v2 : Int32) (st : St) : Option (Unit × St) := (fX2_becomeSum n 35 35 33 st).bind (fun q => fX4_loudness_s46 n K6 v1 v2 q.2)
set_option maxHeartbeats 4000000 in
set_option maxRecDepth 100000 in
theorem wX4_loudness_s31 (C : Cx p s m args meth c cX4_loudness 3 wsL_law RX4 none D G ad) (n : Nat) (K6 : Int32 → Int32 → St → Option (Unit × St))  (v1 : Int32) (v2 : Int32)   (st : St) (res : (Unit × St)) (hK6 : ∀ (v1 : Int32) (v2 : Int32) (st : St), K6 v1 v2 st = some res → At p l e (rmK 4) s m args below meth c D G ad (MQV D G ad below args s res) 3 st [(0, .ref (ad 24)), (1, .int v1), (2, .int v2)] 6 []) (hf : fX4_loudness_s31 n K6  v1 v2 st = some res) : At p l e (rmK 4) s m args below meth c D G ad (MQV D G ad below args s res) 3 st [(0, .ref (ad 24)), (1, .int v1), (2, .int v2)] 31 [] := by
  obtain ⟨hx, hb, hml, hown, hts, hr, hlk, hK, had, hSt⟩ := id C
  intro H locs ls hl hP hS
  unfold fX4_loudness_s31 at hf
  refine lv_aload_n hx hb dX4_loudness_31 rfl (lv_at hl 0 rfl) ?_
  refine g_getR hx hb hts inlX4 hown hK hP 24 ct_24 rfl 10 (by decide) (hts _ wm_5_12) rfl dX4_loudness_32 ?_
  refine lv_aload_n hx hb dX4_loudness_35 rfl (lv_at hl 0 rfl) ?_
  refine g_getR hx hb hts inlX4 hown hK hP 24 ct_24 rfl 10 (by decide) (hts _ wm_5_12) rfl dX4_loudness_36 ?_
  refine lv_aload_n hx hb dX4_loudness_39 rfl (lv_at hl 0 rfl) ?_
  refine g_getR hx hb hts inlX4 hown hK hP 24 ct_24 rfl 8 (by decide) (hts _ wm_5_10) rfl dX4_loudness_40 ?_
  obtain ⟨q, hq, hf⟩ := bd hf
  refine gcV_v (k := 2) (o := 35) (As := [.ref (ad 35), .ref (ad 33)]) (rest := []) hx hb hml hown hts hK hSt hP hS hl.1 (goodV wm_36_5 wm_36_6 wm_36_7 wm_2_15 wm_36_8) okX2_becomeSum ct_35 rfl rfl (Nat.le_of_ble_eq_true rfl) (Nat.le_of_ble_eq_true rfl) rfl rfl (Nat.le_of_ble_eq_true rfl) dX4_loudness_43 (kX2_becomeSum l D G ad had n 35 35 33 isFr_lit_35 isFr_lit_35 isFr_lit_33  st q hq) (fun H locs hP hS => ?_)
  exact wX4_loudness_s46 C n K6 v1 v2 q.2 res hK6 hf H locs ls (lv_sub hl [0, 1, 2] rfl) hP hS
def fX4_loudness_s16 (n : Nat) (K6 : Int32 → Int32 → St → Option (Unit × St))  (v1 : Int32) (v2 : Int32) (st : St) : Option (Unit × St) := (fX2_becomeProduct n 33 32 32 st).bind (fun q => fX4_loudness_s31 n K6 v1 v2 q.2)
set_option maxHeartbeats 4000000 in
set_option maxRecDepth 100000 in
theorem wX4_loudness_s16 (C : Cx p s m args meth c cX4_loudness 3 wsL_law RX4 none D G ad) (n : Nat) (K6 : Int32 → Int32 → St → Option (Unit × St))  (v1 : Int32) (v2 : Int32)   (st : St) (res : (Unit × St)) (hK6 : ∀ (v1 : Int32) (v2 : Int32) (st : St), K6 v1 v2 st = some res → At p l e (rmK 4) s m args below meth c D G ad (MQV D G ad below args s res) 3 st [(0, .ref (ad 24)), (1, .int v1), (2, .int v2)] 6 []) (hf : fX4_loudness_s16 n K6  v1 v2 st = some res) : At p l e (rmK 4) s m args below meth c D G ad (MQV D G ad below args s res) 3 st [(0, .ref (ad 24)), (1, .int v1), (2, .int v2)] 16 [] := by
  obtain ⟨hx, hb, hml, hown, hts, hr, hlk, hK, had, hSt⟩ := id C
  intro H locs ls hl hP hS
  unfold fX4_loudness_s16 at hf
  refine lv_aload_n hx hb dX4_loudness_16 rfl (lv_at hl 0 rfl) ?_
  refine g_getR hx hb hts inlX4 hown hK hP 24 ct_24 rfl 8 (by decide) (hts _ wm_5_10) rfl dX4_loudness_17 ?_
  refine lv_aload_n hx hb dX4_loudness_20 rfl (lv_at hl 0 rfl) ?_
  refine g_getR hx hb hts inlX4 hown hK hP 24 ct_24 rfl 7 (by decide) (hts _ wm_5_9) rfl dX4_loudness_21 ?_
  refine lv_aload_n hx hb dX4_loudness_24 rfl (lv_at hl 0 rfl) ?_
  refine g_getR hx hb hts inlX4 hown hK hP 24 ct_24 rfl 7 (by decide) (hts _ wm_5_9) rfl dX4_loudness_25 ?_
  obtain ⟨q, hq, hf⟩ := bd hf
  refine gcV_v (k := 2) (o := 33) (As := [.ref (ad 32), .ref (ad 32)]) (rest := []) hx hb hml hown hts hK hSt hP hS hl.1 (goodV wm_36_1 wm_36_2 wm_36_3 wm_2_15 wm_36_4) okX2_becomeProduct ct_33 rfl rfl (Nat.le_of_ble_eq_true rfl) (Nat.le_of_ble_eq_true rfl) rfl rfl (Nat.le_of_ble_eq_true rfl) dX4_loudness_28 (kX2_becomeProduct l D G ad had n 33 32 32 isFr_lit_33 isFr_lit_32 isFr_lit_32  st q hq) (fun H locs hP hS => ?_)
  exact wX4_loudness_s31 C n K6 v1 v2 q.2 res hK6 hf H locs ls (lv_sub hl [0, 1, 2] rfl) hP hS
def fX4_loudness_s11 (n : Nat) (K6 : Int32 → Int32 → St → Option (Unit × St))  (v1 : Int32) (v2 : Int32) (st : St) : Option (Unit × St) := (fX4_pass n v2 st).bind (fun q => fX4_loudness_s16 n K6 v1 v2 q.2)
set_option maxHeartbeats 4000000 in
set_option maxRecDepth 100000 in
theorem wX4_loudness_s11 (C : Cx p s m args meth c cX4_loudness 3 wsL_law RX4 none D G ad) (n : Nat) (K6 : Int32 → Int32 → St → Option (Unit × St))  (v1 : Int32) (v2 : Int32)   (st : St) (res : (Unit × St)) (hK6 : ∀ (v1 : Int32) (v2 : Int32) (st : St), K6 v1 v2 st = some res → At p l e (rmK 4) s m args below meth c D G ad (MQV D G ad below args s res) 3 st [(0, .ref (ad 24)), (1, .int v1), (2, .int v2)] 6 []) (hf : fX4_loudness_s11 n K6  v1 v2 st = some res) : At p l e (rmK 4) s m args below meth c D G ad (MQV D G ad below args s res) 3 st [(0, .ref (ad 24)), (1, .int v1), (2, .int v2)] 11 [] := by
  obtain ⟨hx, hb, hml, hown, hts, hr, hlk, hK, had, hSt⟩ := id C
  intro H locs ls hl hP hS
  unfold fX4_loudness_s11 at hf
  refine lv_aload_n hx hb dX4_loudness_11 rfl (lv_at hl 0 rfl) ?_
  refine lv_iload_n hx hb dX4_loudness_12 rfl (lv_at hl 2 rfl) ?_
  obtain ⟨q, hq, hf⟩ := bd hf
  refine gcV_v (k := 3) (o := 24) (As := [.int v2]) (rest := []) hx hb hml hown hts hK hSt hP hS hl.1 (goodV wm_38_0 wm_35_16 wm_35_17 wm_2_11 wm_35_18) okX4_pass ct_24 rfl rfl (Nat.le_of_ble_eq_true rfl) (Nat.le_of_ble_eq_true rfl) rfl rfl (Nat.le_of_ble_eq_true rfl) dX4_loudness_13 (kX4_pass l D G ad had n  v2 st q hq) (fun H locs hP hS => ?_)
  exact wX4_loudness_s16 C n K6 v1 v2 q.2 res hK6 hf H locs ls (lv_sub hl [0, 1, 2] rfl) hP hS
def fX4_loudness_s6 (n : Nat) (K6 : Int32 → Int32 → St → Option (Unit × St))  (v1 : Int32) (v2 : Int32) (st : St) : Option (Unit × St) := if v1 ≤ v2 then fX4_loudness_s52 n st else fX4_loudness_s11 n K6 v1 v2 st
set_option maxHeartbeats 4000000 in
set_option maxRecDepth 100000 in
theorem wX4_loudness_s6 (C : Cx p s m args meth c cX4_loudness 3 wsL_law RX4 none D G ad) (n : Nat) (K6 : Int32 → Int32 → St → Option (Unit × St))  (v1 : Int32) (v2 : Int32)   (st : St) (res : (Unit × St)) (hK6 : ∀ (v1 : Int32) (v2 : Int32) (st : St), K6 v1 v2 st = some res → At p l e (rmK 4) s m args below meth c D G ad (MQV D G ad below args s res) 3 st [(0, .ref (ad 24)), (1, .int v1), (2, .int v2)] 6 []) (hf : fX4_loudness_s6 n K6  v1 v2 st = some res) : At p l e (rmK 4) s m args below meth c D G ad (MQV D G ad below args s res) 3 st [(0, .ref (ad 24)), (1, .int v1), (2, .int v2)] 6 [] := by
  obtain ⟨hx, hb, hml, hown, hts, hr, hlk, hK, had, hSt⟩ := id C
  intro H locs ls hl hP hS
  unfold fX4_loudness_s6 at hf
  refine lv_iload_n hx hb dX4_loudness_6 rfl (lv_at hl 2 rfl) ?_
  refine lv_iload_n hx hb dX4_loudness_7 rfl (lv_at hl 1 rfl) ?_
  refine lv_icmp_ge (tgt := 52) hx hb dX4_loudness_8 (by decide) (fun q => ?_) (fun q => ?_)
  · exact wX4_loudness_s52 C n st res (it hf q) H locs ls (lv_sub hl [] rfl) hP hS
  · exact wX4_loudness_s11 C n K6 v1 v2 st res hK6 (ie hf q) H locs ls (lv_sub hl [0, 1, 2] rfl) hP hS
def fX4_loudness_L6 (n : Nat)   : Nat → Int32 → Int32 → St → Option (Unit × St)
  | 0, _, _, _ => none
  | k + 1, v1, v2, st => fX4_loudness_s6 n (fX4_loudness_L6 n k)  v1 v2 st
theorem wX4_loudness_L6 (C : Cx p s m args meth c cX4_loudness 3 wsL_law RX4 none D G ad) (n : Nat)    (res : (Unit × St))  : ∀ (k : Nat) (v1 : Int32) (v2 : Int32)  (st : St), fX4_loudness_L6 n k v1 v2 st = some res → At p l e (rmK 4) s m args below meth c D G ad (MQV D G ad below args s res) 3 st [(0, .ref (ad 24)), (1, .int v1), (2, .int v2)] 6 [] := by
  intro k
  induction k with
  | zero => intro v1 v2  st h; exact absurd h (by intro q; cases q)
  | succ k ih => intro v1 v2  st h; exact wX4_loudness_s6 C n (fX4_loudness_L6 n k)  v1 v2   st res ih h
def fX4_loudness_s4 (n : Nat)   (v1 : Int32) (st : St) : Option (Unit × St) := fX4_loudness_L6 n n v1 0 st
set_option maxHeartbeats 4000000 in
set_option maxRecDepth 100000 in
theorem wX4_loudness_s4 (C : Cx p s m args meth c cX4_loudness 3 wsL_law RX4 none D G ad) (n : Nat)   (v1 : Int32)   (st : St) (res : (Unit × St))  (hf : fX4_loudness_s4 n   v1 st = some res) : At p l e (rmK 4) s m args below meth c D G ad (MQV D G ad below args s res) 3 st [(0, .ref (ad 24)), (1, .int v1)] 4 [] := by
  obtain ⟨hx, hb, hml, hown, hts, hr, hlk, hK, had, hSt⟩ := id C
  intro H locs ls hl hP hS
  unfold fX4_loudness_s4 at hf
  refine lv_iconst (v := 0) hx hb dX4_loudness_4 (by decide) ?_
  refine lv_istore_n (lv' := [(2, .int 0), (0, .ref (ad 24)), (1, .int v1)]) hx hb dX4_loudness_5 rfl hl (by decide) rfl (fun ls hl => ?_)
  exact wX4_loudness_L6 C n res n v1 0 st hf H locs ls (lv_sub hl [1, 2, 0] rfl) hP hS
def fX4_loudness_s0 (n : Nat)   (v1 : Int32) (st : St) : Option (Unit × St) := (fX4_begin n st).bind (fun q => fX4_loudness_s4 n v1 q.2)
set_option maxHeartbeats 4000000 in
set_option maxRecDepth 100000 in
theorem wX4_loudness_s0 (C : Cx p s m args meth c cX4_loudness 3 wsL_law RX4 none D G ad) (n : Nat)   (v1 : Int32)   (st : St) (res : (Unit × St))  (hf : fX4_loudness_s0 n   v1 st = some res) : At p l e (rmK 4) s m args below meth c D G ad (MQV D G ad below args s res) 3 st [(0, .ref (ad 24)), (1, .int v1)] 0 [] := by
  obtain ⟨hx, hb, hml, hown, hts, hr, hlk, hK, had, hSt⟩ := id C
  intro H locs ls hl hP hS
  unfold fX4_loudness_s0 at hf
  refine lv_aload_n hx hb dX4_loudness_0 rfl (lv_at hl 0 rfl) ?_
  obtain ⟨q, hq, hf⟩ := bd hf
  refine gcV_v (k := 2) (o := 24) (As := []) (rest := []) hx hb hml hown hts hK hSt hP hS hl.1 (goodV wm_37_23 wm_35_11 wm_35_12 wm_2_11 wm_35_13) okX4_begin ct_24 rfl rfl (Nat.le_of_ble_eq_true rfl) (Nat.le_of_ble_eq_true rfl) rfl rfl (Nat.le_of_ble_eq_true rfl) dX4_loudness_1 (kX4_begin l D G ad had n   st q hq) (fun H locs hP hS => ?_)
  exact wX4_loudness_s4 C n v1 q.2 res hf H locs ls (lv_sub hl [0, 1] rfl) hP hS
def fX4_loudness (n : Nat)  (a1 : Int32) (st : St) : Option (Unit × St) := fX4_loudness_s0 n a1 st
theorem okX4_loudness : okY yX4_loudness RX4 1 := by unfold okY; decide +kernel
end
set_option maxRecDepth 100000 in
theorem kX4_loudness (l : Launch) (D : va_G) (G : G3) (ad : Nat → Nat) (had : Adr ad) (n : Nat)   (a1 : Int32) (st : St) (res : (Unit × St)) (hf : fX4_loudness n  a1 st = some res) {sz : Nat} : CtV l yX4_loudness (wsU yX4_loudness cX4_loudness 3 none) (rmK 4) D G ad sz [.ref (ad 24), .int a1] st res := by
  refine Met.ofW (cc := cX4_loudness) (maxL := 3) (ret := none) (by decide) rfl ?_
  intro p e s m args below meth c s₁ B hml hv
  obtain ⟨rfl, hsz, hP, hK, hSt⟩ := hv
  have hts := atoms_spec (ws := wsU yX4_loudness cX4_loudness 3 none) B.pre
  have C : Cx p s m _ meth c cX4_loudness 3 wsL_law RX4 none D G ad := ⟨B.exec, B.bytes, hml, findClass_of_methodNamed B.named, fun w h => hts w (List.mem_cons_of_mem _ h), B.returns, B.notSynchronized, hK, had, hSt⟩
  subst hsz
  have hl := lv_entry ([.ref (ad 24), .int a1]) (n := 3) (Nat.le_of_ble_eq_true rfl)
  rw [lg_entry_eq]
  generalize (lg_sl ([.ref (ad 24), .int a1]) ++ List.replicate (3 - (lg_sl ([.ref (ad 24), .int a1])).length) Slot.unset).toArray = ls at hl ⊢
  exact wX4_loudness_s0 C n  a1   st res hf s.heap [] ls (lv_sub hl [0, 1] rfl) hP va_S.rf
