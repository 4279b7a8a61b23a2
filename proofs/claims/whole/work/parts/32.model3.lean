theorem wm_8_15 : Cond.fieldLink RX11 124 "OrderEchoModel" "coef" "[J" ∈ wsL_law := in_r8 _ (mm_at 15 rfl)
theorem wm_8_16 : Cond.fieldLink RX11 127 "OrderEchoModel" "nextCoef" "[J" ∈ wsL_law := in_r8 _ (mm_at 16 rfl)
theorem wm_8_17 : Cond.fieldLink RX11 130 "OrderEchoModel" "weight" "[I" ∈ wsL_law := in_r8 _ (mm_at 17 rfl)
theorem wm_8_18 : Cond.fieldLink RX11 133 "OrderEchoModel" "chance" "[J" ∈ wsL_law := in_r8 _ (mm_at 18 rfl)
theorem wm_8_19 : Cond.fieldLink RX11 136 "OrderEchoModel" "moved" "[J" ∈ wsL_law := in_r8 _ (mm_at 19 rfl)
theorem wm_8_20 : Cond.fieldLink RX11 139 "OrderEchoModel" "keptNumbers" "[J" ∈ wsL_law := in_r8 _ (mm_at 20 rfl)
theorem wm_8_21 : Cond.fieldLink RX11 142 "OrderEchoModel" "keptDemand" "[I" ∈ wsL_law := in_r8 _ (mm_at 21 rfl)
theorem wm_8_22 : Cond.fieldLink RX11 145 "OrderEchoModel" "kept8" "[J" ∈ wsL_law := in_r8 _ (mm_at 22 rfl)
theorem wm_8_23 : Cond.fieldLink RX11 148 "OrderEchoModel" "keptOwed" "[J" ∈ wsL_law := in_r8 _ (mm_at 23 rfl)
theorem wm_9_0 : Cond.fieldLink RX11 151 "OrderEchoModel" "keptSlots" "[J" ∈ wsL_law := in_r9 _ (mm_at 0 rfl)
theorem wm_9_1 : Cond.fieldLink RX11 154 "OrderEchoModel" "keptGiven" "[J" ∈ wsL_law := in_r9 _ (mm_at 1 rfl)
theorem wm_9_2 : Cond.fieldLink RX11 157 "OrderEchoModel" "keptSaw" "[J" ∈ wsL_law := in_r9 _ (mm_at 2 rfl)
theorem wm_9_3 : Cond.fieldLink RX11 160 "OrderEchoModel" "keptGave" "[J" ∈ wsL_law := in_r9 _ (mm_at 3 rfl)
theorem wm_9_4 : Cond.fieldLink RX11 163 "OrderEchoModel" "worst" "[I" ∈ wsL_law := in_r9 _ (mm_at 4 rfl)
theorem wm_39_18 : Cond.constantLong RX11 378 (4) ∈ wsL_law := in_r39 _ (mm_at 18 rfl)
theorem wm_39_19 : Cond.constantLong RX11 380 (100) ∈ wsL_law := in_r39 _ (mm_at 19 rfl)
theorem wm_39_20 : Cond.constantLong RX11 382 (-99) ∈ wsL_law := in_r39 _ (mm_at 20 rfl)
theorem wm_39_21 : Cond.methodLink RX11 384 yX11_size ∈ wsL_law := in_r39 _ (mm_at 21 rfl)
theorem wm_39_22 : Cond.static yX11_size ∈ wsL_law := in_r39 _ (mm_at 22 rfl)
theorem wm_39_23 : Cond.code yX11_size cX11_size 2 (some .long) ∈ wsL_law := in_r39 _ (mm_at 23 rfl)
theorem wm_40_10 : Cond.constantLong RX11 387 (99999) ∈ wsL_law := in_r40 _ (mm_at 10 rfl)
theorem wm_41_0 : Cond.methodLink RX11 389 yX11_findChances ∈ wsL_law := in_r41 _ (mm_at 0 rfl)
theorem wm_41_1 : Cond.instanceMethod yX11_findChances ∈ wsL_law := in_r41 _ (mm_at 1 rfl)
theorem wm_41_2 : Cond.selects RX11 yX11_findChances yX11_findChances ∈ wsL_law := in_r41 _ (mm_at 2 rfl)
theorem wm_41_3 : Cond.code yX11_findChances cX11_findChances 6 none ∈ wsL_law := in_r41 _ (mm_at 3 rfl)
theorem wm_42_22 : Cond.methodLink RX11 419 yX11_hasLevels ∈ wsL_law := in_r42 _ (mm_at 22 rfl)
theorem wm_42_23 : Cond.instanceMethod yX11_hasLevels ∈ wsL_law := in_r42 _ (mm_at 23 rfl)
theorem wm_43_0 : Cond.selects RX11 yX11_hasLevels yX11_hasLevels ∈ wsL_law := in_r43 _ (mm_at 0 rfl)
theorem wm_43_1 : Cond.code yX11_hasLevels cX11_hasLevels 3 (some .boolean) ∈ wsL_law := in_r43 _ (mm_at 1 rfl)
theorem wm_43_2 : Cond.fieldLink RX11 393 "OrderEchoModel" "l" "I" ∈ wsL_law := in_r43 _ (mm_at 2 rfl)
theorem wm_43_3 : Cond.fieldLink RX11 396 "OrderEchoModel" "m" "I" ∈ wsL_law := in_r43 _ (mm_at 3 rfl)
theorem wm_43_4 : Cond.fieldLink RX11 399 "OrderEchoModel" "h" "J" ∈ wsL_law := in_r43 _ (mm_at 4 rfl)
theorem wm_43_5 : Cond.fieldLink RX11 402 "OrderEchoModel" "g" "J" ∈ wsL_law := in_r43 _ (mm_at 5 rfl)
theorem wm_43_6 : Cond.fieldLink RX11 405 "OrderEchoModel" "b" "J" ∈ wsL_law := in_r43 _ (mm_at 6 rfl)
theorem wm_43_7 : Cond.constantLong RX11 408 (9) ∈ wsL_law := in_r43 _ (mm_at 7 rfl)
theorem wm_43_8 : Cond.methodLink RX11 423 yX11_nearLevel ∈ wsL_law := in_r43 _ (mm_at 8 rfl)
theorem wm_43_9 : Cond.instanceMethod yX11_nearLevel ∈ wsL_law := in_r43 _ (mm_at 9 rfl)
theorem wm_43_10 : Cond.selects RX11 yX11_nearLevel yX11_nearLevel ∈ wsL_law := in_r43 _ (mm_at 10 rfl)
theorem wm_43_11 : Cond.code yX11_nearLevel cX11_nearLevel 3 (some .int) ∈ wsL_law := in_r43 _ (mm_at 11 rfl)
theorem wm_43_12 : Cond.methodLink RX11 416 yX11_near ∈ wsL_law := in_r43 _ (mm_at 12 rfl)
theorem wm_43_13 : Cond.instanceMethod yX11_near ∈ wsL_law := in_r43 _ (mm_at 13 rfl)
theorem wm_43_14 : Cond.selects RX11 yX11_near yX11_near ∈ wsL_law := in_r43 _ (mm_at 14 rfl)
theorem wm_43_15 : Cond.code yX11_near cX11_near 8 (some .long) ∈ wsL_law := in_r43 _ (mm_at 15 rfl)
theorem wm_43_16 : Cond.constantLong RX11 410 (-30) ∈ wsL_law := in_r43 _ (mm_at 16 rfl)
theorem wm_43_17 : Cond.methodLink RX11 412 yX11_allNear ∈ wsL_law := in_r43 _ (mm_at 17 rfl)
theorem wm_43_18 : Cond.instanceMethod yX11_allNear ∈ wsL_law := in_r43 _ (mm_at 18 rfl)
theorem wm_43_19 : Cond.selects RX11 yX11_allNear yX11_allNear ∈ wsL_law := in_r43 _ (mm_at 19 rfl)
theorem wm_43_20 : Cond.code yX11_allNear cX11_allNear 4 (some .long) ∈ wsL_law := in_r43 _ (mm_at 20 rfl)
theorem wm_43_21 : Cond.methodLink RX11 426 yX11_far ∈ wsL_law := in_r43 _ (mm_at 21 rfl)
theorem wm_43_22 : Cond.instanceMethod yX11_far ∈ wsL_law := in_r43 _ (mm_at 22 rfl)
theorem wm_43_23 : Cond.selects RX11 yX11_far yX11_far ∈ wsL_law := in_r43 _ (mm_at 23 rfl)
theorem wm_44_0 : Cond.code yX11_far cX11_far 8 (some .long) ∈ wsL_law := in_r44 _ (mm_at 0 rfl)
theorem wm_46_2 : Cond.constantLong RX11 429 (-2) ∈ wsL_law := in_r46 _ (mm_at 2 rfl)
theorem wm_46_3 : Cond.constantLong RX11 431 (-3) ∈ wsL_law := in_r46 _ (mm_at 3 rfl)
theorem wm_46_4 : Cond.fieldLink RX11 443 "OrderEchoModel" "worstMany" "I" ∈ wsL_law := in_r46 _ (mm_at 4 rfl)
theorem wm_46_5 : Cond.methodLink RX11 433 yX11_keeps ∈ wsL_law := in_r46 _ (mm_at 5 rfl)
theorem wm_46_6 : Cond.instanceMethod yX11_keeps ∈ wsL_law := in_r46 _ (mm_at 6 rfl)
theorem wm_46_7 : Cond.selects RX11 yX11_keeps yX11_keeps ∈ wsL_law := in_r46 _ (mm_at 7 rfl)
theorem wm_46_8 : Cond.code yX11_keeps cX11_keeps 2 none ∈ wsL_law := in_r46 _ (mm_at 8 rfl)
theorem wm_46_9 : Cond.methodLink RX11 436 yX11_tries ∈ wsL_law := in_r46 _ (mm_at 9 rfl)
theorem wm_46_10 : Cond.instanceMethod yX11_tries ∈ wsL_law := in_r46 _ (mm_at 10 rfl)
theorem wm_46_11 : Cond.selects RX11 yX11_tries yX11_tries ∈ wsL_law := in_r46 _ (mm_at 11 rfl)
theorem wm_46_12 : Cond.code yX11_tries cX11_tries 12 (some .long) ∈ wsL_law := in_r46 _ (mm_at 12 rfl)
theorem wm_46_13 : Cond.methodLink RX11 440 yX11_lays ∈ wsL_law := in_r46 _ (mm_at 13 rfl)
theorem wm_46_14 : Cond.instanceMethod yX11_lays ∈ wsL_law := in_r46 _ (mm_at 14 rfl)
theorem wm_46_15 : Cond.selects RX11 yX11_lays yX11_lays ∈ wsL_law := in_r46 _ (mm_at 15 rfl)
theorem wm_46_16 : Cond.code yX11_lays cX11_lays 2 none ∈ wsL_law := in_r46 _ (mm_at 16 rfl)
theorem wm_48_0 : Cond.methodLink RX11 452 yX11_areClaims ∈ wsL_law := in_r48 _ (mm_at 0 rfl)
theorem wm_48_1 : Cond.static yX11_areClaims ∈ wsL_law := in_r48 _ (mm_at 1 rfl)
theorem wm_48_2 : Cond.code yX11_areClaims cX11_areClaims 6 (some .boolean) ∈ wsL_law := in_r48 _ (mm_at 2 rfl)
theorem wm_48_3 : Cond.methodLink RX11 448 yX11_areDigits ∈ wsL_law := in_r48 _ (mm_at 3 rfl)
theorem wm_48_4 : Cond.static yX11_areDigits ∈ wsL_law := in_r48 _ (mm_at 4 rfl)
theorem wm_48_5 : Cond.code yX11_areDigits cX11_areDigits 5 (some .boolean) ∈ wsL_law := in_r48 _ (mm_at 5 rfl)
theorem wm_48_6 : Cond.constantLong RX11 446 (15) ∈ wsL_law := in_r48 _ (mm_at 6 rfl)
theorem wm_48_7 : Cond.methodLink RX11 456 yX11_getsOne ∈ wsL_law := in_r48 _ (mm_at 7 rfl)
theorem wm_48_8 : Cond.instanceMethod yX11_getsOne ∈ wsL_law := in_r48 _ (mm_at 8 rfl)
theorem wm_48_9 : Cond.selects RX11 yX11_getsOne yX11_getsOne ∈ wsL_law := in_r48 _ (mm_at 9 rfl)
theorem wm_48_10 : Cond.code yX11_getsOne cX11_getsOne 8 (some .long) ∈ wsL_law := in_r48 _ (mm_at 10 rfl)
theorem wm_49_12 : Cond.methodLink RX11 460 yX11_isCalm ∈ wsL_law := in_r49 _ (mm_at 12 rfl)
theorem wm_49_13 : Cond.instanceMethod yX11_isCalm ∈ wsL_law := in_r49 _ (mm_at 13 rfl)
theorem wm_49_14 : Cond.selects RX11 yX11_isCalm yX11_isCalm ∈ wsL_law := in_r49 _ (mm_at 14 rfl)
theorem wm_49_15 : Cond.code yX11_isCalm cX11_isCalm 17 (some .boolean) ∈ wsL_law := in_r49 _ (mm_at 15 rfl)
section
variable {p : Program} {l : Launch} {e : Env} {s : State} {m : MethodId} {args : Array Value} {below : List Frame} {meth : Method} {c : Code} {D : va_G} {G : G3} {ad : Nat → Nat}
def fX11_size_s12 (n : Nat)   (k0 : Int64) (st : St) : Option (Int64 × St) := some (k0, st)
set_option maxHeartbeats 4000000 in
set_option maxRecDepth 100000 in
theorem wX11_size_s12 (C : Cx p s m args meth c cX11_size 2 wsL_law RX11 (some .long) D G ad) (n : Nat)   (k0 : Int64)   (st : St) (res : (Int64 × St))  (hf : fX11_size_s12 n   k0 st = some res) : At p l e (rmK 0) s m args below meth c D G ad (MQJ D G ad below args s res) 2 st [] 12 [.long k0] := by
  obtain ⟨hx, hb, hml, hown, hts, hr, hlk, hK, had, hSt⟩ := id C
  intro H locs ls hl hP hS
  unfold fX11_size_s12 at hf
  exact g_lret hx hb hr hlk hP hS dX11_size_12 hf
def fX11_size_s11 (n : Nat)   (v0 : Int64) (st : St) : Option (Int64 × St) := fX11_size_s12 n v0 st
set_option maxHeartbeats 4000000 in
set_option maxRecDepth 100000 in
theorem wX11_size_s11 (C : Cx p s m args meth c cX11_size 2 wsL_law RX11 (some .long) D G ad) (n : Nat)   (v0 : Int64)   (st : St) (res : (Int64 × St))  (hf : fX11_size_s11 n   v0 st = some res) : At p l e (rmK 0) s m args below meth c D G ad (MQJ D G ad below args s res) 2 st [(0, .long v0)] 11 [] := by
  obtain ⟨hx, hb, hml, hown, hts, hr, hlk, hK, had, hSt⟩ := id C
  intro H locs ls hl hP hS
  unfold fX11_size_s11 at hf
  refine lv_lload_n hx hb dX11_size_11 rfl (lv_at hl 0 rfl) ?_
  exact wX11_size_s12 C n v0 st res hf H locs ls (lv_sub hl [] rfl) hP hS
def fX11_size_s6 (n : Nat)   (v0 : Int64) (st : St) : Option (Int64 × St) := fX11_size_s12 n (-v0) st
set_option maxHeartbeats 4000000 in
set_option maxRecDepth 100000 in
theorem wX11_size_s6 (C : Cx p s m args meth c cX11_size 2 wsL_law RX11 (some .long) D G ad) (n : Nat)   (v0 : Int64)   (st : St) (res : (Int64 × St))  (hf : fX11_size_s6 n   v0 st = some res) : At p l e (rmK 0) s m args below meth c D G ad (MQJ D G ad below args s res) 2 st [(0, .long v0)] 6 [] := by
  obtain ⟨hx, hb, hml, hown, hts, hr, hlk, hK, had, hSt⟩ := id C
  intro H locs ls hl hP hS
  unfold fX11_size_s6 at hf
  refine lv_lload_n hx hb dX11_size_6 rfl (lv_at hl 0 rfl) ?_
  refine lv_lneg hx hb dX11_size_7 ?_
  refine lv_goto (tgt := 12) hx hb dX11_size_8 (by decide) ?_
  exact wX11_size_s12 C n (-v0) st res hf H locs ls (lv_sub hl [] rfl) hP hS
def fX11_size_s0 (n : Nat)   (v0 : Int64) (st : St) : Option (Int64 × St) := if 0 ≤ v0 then fX11_size_s11 n v0 st else fX11_size_s6 n v0 st
set_option maxHeartbeats 4000000 in
set_option maxRecDepth 100000 in
theorem wX11_size_s0 (C : Cx p s m args meth c cX11_size 2 wsL_law RX11 (some .long) D G ad) (n : Nat)   (v0 : Int64)   (st : St) (res : (Int64 × St))  (hf : fX11_size_s0 n   v0 st = some res) : At p l e (rmK 0) s m args below meth c D G ad (MQJ D G ad below args s res) 2 st [(0, .long v0)] 0 [] := by
  obtain ⟨hx, hb, hml, hown, hts, hr, hlk, hK, had, hSt⟩ := id C
  intro H locs ls hl hP hS
  unfold fX11_size_s0 at hf
  refine lv_lload_n hx hb dX11_size_0 rfl (lv_at hl 0 rfl) ?_
  refine lv_lconst (v := 0) hx hb dX11_size_1 (by decide) ?_
  refine g_lcmp_ge (tgt := 11) hx hb dX11_size_2 dX11_size_3 (by decide) (fun q => ?_) (fun q => ?_)
  · exact wX11_size_s11 C n v0 st res (it hf q) H locs ls (lv_sub hl [0] rfl) hP hS
  · exact wX11_size_s6 C n v0 st res (ie hf q) H locs ls (lv_sub hl [0] rfl) hP hS
def fX11_size (n : Nat)  (a0 : Int64) (st : St) : Option (Int64 × St) := fX11_size_s0 n a0 st
theorem okX11_size : okY yX11_size RX11 1 := by unfold okY; decide +kernel
end
set_option maxRecDepth 100000 in
theorem kX11_size (l : Launch) (D : va_G) (G : G3) (ad : Nat → Nat) (had : Adr ad) (n : Nat)   (a0 : Int64) (st : St) (res : (Int64 × St)) (hf : fX11_size n  a0 st = some res) {sz : Nat} : CtJ l yX11_size (wsU yX11_size cX11_size 2 (some .long)) (rmK 0) D G ad sz [.long a0] st res := by
  refine Met.ofW (cc := cX11_size) (maxL := 2) (ret := (some .long)) (by decide) rfl ?_
  intro p e s m args below meth c s₁ B hml hv
  obtain ⟨rfl, hsz, hP, hK, hSt⟩ := hv
  have hts := atoms_spec (ws := wsU yX11_size cX11_size 2 (some .long)) B.pre
  have C : Cx p s m _ meth c cX11_size 2 wsL_law RX11 (some .long) D G ad := ⟨B.exec, B.bytes, hml, findClass_of_methodNamed B.named, fun w h => hts w (List.mem_cons_of_mem _ h), B.returns, B.notSynchronized, hK, had, hSt⟩
  subst hsz
  have hl := lv_entry ([.long a0]) (n := 2) (Nat.le_of_ble_eq_true rfl)
  rw [lg_entry_eq]
  generalize (lg_sl ([.long a0]) ++ List.replicate (2 - (lg_sl ([.long a0])).length) Slot.unset).toArray = ls at hl ⊢
  exact wX11_size_s0 C n  a0   st res hf s.heap [] ls (lv_sub hl [0] rfl) hP va_S.rf
section
variable {p : Program} {l : Launch} {e : Env} {s : State} {m : MethodId} {args : Array Value} {below : List Frame} {meth : Method} {c : Code} {D : va_G} {G : G3} {ad : Nat → Nat}
def fX11_steady_s31 (n : Nat)    (st : St) : Option (Int32 × St) := some ((-2), st)
set_option maxHeartbeats 4000000 in
set_option maxRecDepth 100000 in
theorem wX11_steady_s31 (C : Cx p s m args meth c cX11_steady 6 wsL_law RX11 (some .int) D G ad) (n : Nat)      (st : St) (res : (Int32 × St))  (hf : fX11_steady_s31 n    st = some res) : At p l e (rmK 1) s m args below meth c D G ad (MQI D G ad below args s res) 6 st [] 31 [] := by
  obtain ⟨hx, hb, hml, hown, hts, hr, hlk, hK, had, hSt⟩ := id C
  intro H locs ls hl hP hS
  unfold fX11_steady_s31 at hf
  refine lv_bipush (v := (-2)) hx hb dX11_steady_31 (by decide) ?_
  exact g_iret hx hb hr hlk hP hS dX11_steady_33 hf
def fX11_steady_s238 (n : Nat)    (st : St) : Option (Int32 × St) := some (1, st)
set_option maxHeartbeats 4000000 in
set_option maxRecDepth 100000 in
theorem wX11_steady_s238 (C : Cx p s m args meth c cX11_steady 6 wsL_law RX11 (some .int) D G ad) (n : Nat)      (st : St) (res : (Int32 × St))  (hf : fX11_steady_s238 n    st = some res) : At p l e (rmK 1) s m args below meth c D G ad (MQI D G ad below args s res) 6 st [] 238 [] := by
  obtain ⟨hx, hb, hml, hown, hts, hr, hlk, hK, had, hSt⟩ := id C
  intro H locs ls hl hP hS
  unfold fX11_steady_s238 at hf
  refine lv_iconst (v := 1) hx hb dX11_steady_238 (by decide) ?_
  exact g_iret hx hb hr hlk hP hS dX11_steady_239 hf
def fX11_steady_s232 (n : Nat) (K110 : Int32 → St → Option (Int32 × St))  (v4 : Int32) (st : St) : Option (Int32 × St) := K110 (v4 + (-1)) st
set_option maxHeartbeats 4000000 in
set_option maxRecDepth 100000 in
theorem wX11_steady_s232 (C : Cx p s m args meth c cX11_steady 6 wsL_law RX11 (some .int) D G ad) (n : Nat) (K110 : Int32 → St → Option (Int32 × St))  (v4 : Int32)   (st : St) (res : (Int32 × St)) (hK110 : ∀ (v4 : Int32) (st : St), K110 v4 st = some res → At p l e (rmK 1) s m args below meth c D G ad (MQI D G ad below args s res) 6 st [(0, .ref (ad 130)), (4, .int v4)] 110 []) (hf : fX11_steady_s232 n K110  v4 st = some res) : At p l e (rmK 1) s m args below meth c D G ad (MQI D G ad below args s res) 6 st [(0, .ref (ad 130)), (4, .int v4)] 232 [] := by
  obtain ⟨hx, hb, hml, hown, hts, hr, hlk, hK, had, hSt⟩ := id C
  intro H locs ls hl hP hS
  unfold fX11_steady_s232 at hf
  refine lv_iinc (v := v4 + (-1)) (lv' := [(4, .int (v4 + (-1))), (0, .ref (ad 130))]) hx hb dX11_steady_232 hl (k := 1) rfl rfl (by decide) rfl (fun ls hl => ?_)
  refine lv_goto (tgt := 110) hx hb dX11_steady_235 (by decide) ?_
  exact hK110 (v4 + (-1))  st hf H locs ls (lv_sub hl [1, 0] rfl) hP hS
def fX11_steady_s226 (n : Nat) (K110 : Int32 → St → Option (Int32 × St)) (K205 : Int32 → Int32 → St → Option (Int32 × St))  (v4 : Int32) (v5 : Int32) (st : St) : Option (Int32 × St) := K205 v4 (v5 + 1) st
set_option maxHeartbeats 4000000 in
set_option maxRecDepth 100000 in
theorem wX11_steady_s226 (C : Cx p s m args meth c cX11_steady 6 wsL_law RX11 (some .int) D G ad) (n : Nat) (K110 : Int32 → St → Option (Int32 × St)) (K205 : Int32 → Int32 → St → Option (Int32 × St))  (v4 : Int32) (v5 : Int32)   (st : St) (res : (Int32 × St)) (hK110 : ∀ (v4 : Int32) (st : St), K110 v4 st = some res → At p l e (rmK 1) s m args below meth c D G ad (MQI D G ad below args s res) 6 st [(0, .ref (ad 130)), (4, .int v4)] 110 []) (hK205 : ∀ (v4 : Int32) (v5 : Int32) (st : St), K205 v4 v5 st = some res → At p l e (rmK 1) s m args below meth c D G ad (MQI D G ad below args s res) 6 st [(0, .ref (ad 130)), (4, .int v4), (5, .int v5)] 205 []) (hf : fX11_steady_s226 n K110 K205  v4 v5 st = some res) : At p l e (rmK 1) s m args below meth c D G ad (MQI D G ad below args s res) 6 st [(0, .ref (ad 130)), (4, .int v4), (5, .int v5)] 226 [] := by
  obtain ⟨hx, hb, hml, hown, hts, hr, hlk, hK, had, hSt⟩ := id C
  intro H locs ls hl hP hS
  unfold fX11_steady_s226 at hf
  refine lv_iinc (v := v5 + 1) (lv' := [(5, .int (v5 + 1)), (0, .ref (ad 130)), (4, .int v4)]) hx hb dX11_steady_226 hl (k := 2) rfl rfl (by decide) rfl (fun ls hl => ?_)
  refine lv_goto (tgt := 205) hx hb dX11_steady_229 (by decide) ?_
  exact hK205 v4 (v5 + 1)  st hf H locs ls (lv_sub hl [1, 2, 0] rfl) hP hS
def fX11_steady_s212 (n : Nat) (K110 : Int32 → St → Option (Int32 × St)) (K205 : Int32 → Int32 → St → Option (Int32 × St))  (v4 : Int32) (v5 : Int32) (st : St) : Option (Int32 × St) := if inb v5 5 = true then (if inb v5 5 = true then (fX11_steady_s226 n K110 K205 v4 v5 (setJ st 163 v5.toNatClampNeg (st.2 164 v5.toNatClampNeg))) else none) else none
set_option maxHeartbeats 4000000 in
set_option maxRecDepth 100000 in
theorem wX11_steady_s212 (C : Cx p s m args meth c cX11_steady 6 wsL_law RX11 (some .int) D G ad) (n : Nat) (K110 : Int32 → St → Option (Int32 × St)) (K205 : Int32 → Int32 → St → Option (Int32 × St))  (v4 : Int32) (v5 : Int32)   (st : St) (res : (Int32 × St)) (hK110 : ∀ (v4 : Int32) (st : St), K110 v4 st = some res → At p l e (rmK 1) s m args below meth c D G ad (MQI D G ad below args s res) 6 st [(0, .ref (ad 130)), (4, .int v4)] 110 []) (hK205 : ∀ (v4 : Int32) (v5 : Int32) (st : St), K205 v4 v5 st = some res → At p l e (rmK 1) s m args below meth c D G ad (MQI D G ad below args s res) 6 st [(0, .ref (ad 130)), (4, .int v4), (5, .int v5)] 205 []) (hf : fX11_steady_s212 n K110 K205  v4 v5 st = some res) : At p l e (rmK 1) s m args below meth c D G ad (MQI D G ad below args s res) 6 st [(0, .ref (ad 130)), (4, .int v4), (5, .int v5)] 212 [] := by
  obtain ⟨hx, hb, hml, hown, hts, hr, hlk, hK, had, hSt⟩ := id C
  intro H locs ls hl hP hS
  unfold fX11_steady_s212 at hf
  refine lv_aload_n hx hb dX11_steady_212 rfl (lv_at hl 0 rfl) ?_
  refine g_getR hx hb hts inlX11 hown hK hP 130 ct_130 rfl 56 (by decide) (hts _ wm_8_15) rfl dX11_steady_213 ?_
  refine lv_iload hx hb dX11_steady_216 (lv_at hl 2 rfl) ?_
  refine lv_aload_n hx hb dX11_steady_218 rfl (lv_at hl 0 rfl) ?_
  refine g_getR hx hb hts inlX11 hown hK hP 130 ct_130 rfl 57 (by decide) (hts _ wm_8_16) rfl dX11_steady_219 ?_
  refine lv_iload hx hb dX11_steady_222 (lv_at hl 2 rfl) ?_
  obtain ⟨g1, hf⟩ := gd hf
  refine g_lald hx hb hK hP 164 ct_164 g1 dX11_steady_224 ?_
  obtain ⟨g2, hf⟩ := gd hf
  refine g_last hx hb hK had hP hS 163 ct_163 g2 dX11_steady_225 (fun H locs hP hS => ?_)
  exact wX11_steady_s226 C n K110 K205 v4 v5 (setJ st 163 v5.toNatClampNeg (st.2 164 v5.toNatClampNeg)) res hK110 hK205 hf H locs ls (lv_sub hl [0, 1, 2] rfl) hP hS
def fX11_steady_s205 (n : Nat) (K110 : Int32 → St → Option (Int32 × St)) (K205 : Int32 → Int32 → St → Option (Int32 × St))  (v4 : Int32) (v5 : Int32) (st : St) : Option (Int32 × St) := if v4 ≤ v5 then fX11_steady_s232 n K110 v4 st else fX11_steady_s212 n K110 K205 v4 v5 st
set_option maxHeartbeats 4000000 in
set_option maxRecDepth 100000 in
theorem wX11_steady_s205 (C : Cx p s m args meth c cX11_steady 6 wsL_law RX11 (some .int) D G ad) (n : Nat) (K110 : Int32 → St → Option (Int32 × St)) (K205 : Int32 → Int32 → St → Option (Int32 × St))  (v4 : Int32) (v5 : Int32)   (st : St) (res : (Int32 × St)) (hK110 : ∀ (v4 : Int32) (st : St), K110 v4 st = some res → At p l e (rmK 1) s m args below meth c D G ad (MQI D G ad below args s res) 6 st [(0, .ref (ad 130)), (4, .int v4)] 110 []) (hK205 : ∀ (v4 : Int32) (v5 : Int32) (st : St), K205 v4 v5 st = some res → At p l e (rmK 1) s m args below meth c D G ad (MQI D G ad below args s res) 6 st [(0, .ref (ad 130)), (4, .int v4), (5, .int v5)] 205 []) (hf : fX11_steady_s205 n K110 K205  v4 v5 st = some res) : At p l e (rmK 1) s m args below meth c D G ad (MQI D G ad below args s res) 6 st [(0, .ref (ad 130)), (4, .int v4), (5, .int v5)] 205 [] := by
  obtain ⟨hx, hb, hml, hown, hts, hr, hlk, hK, had, hSt⟩ := id C
  intro H locs ls hl hP hS
  unfold fX11_steady_s205 at hf
  refine lv_iload hx hb dX11_steady_205 (lv_at hl 2 rfl) ?_
  refine lv_iload hx hb dX11_steady_207 (lv_at hl 1 rfl) ?_
  refine lv_icmp_ge (tgt := 232) hx hb dX11_steady_209 (by decide) (fun q => ?_) (fun q => ?_)
  · exact wX11_steady_s232 C n K110 v4 st res hK110 (it hf q) H locs ls (lv_sub hl [0, 1] rfl) hP hS
  · exact wX11_steady_s212 C n K110 K205 v4 v5 st res hK110 hK205 (ie hf q) H locs ls (lv_sub hl [0, 1, 2] rfl) hP hS
def fX11_steady_L205 (n : Nat) (K110 : Int32 → St → Option (Int32 × St))  : Nat → Int32 → Int32 → St → Option (Int32 × St)
  | 0, _, _, _ => none
  | k + 1, v4, v5, st => fX11_steady_s205 n K110 (fX11_steady_L205 n K110 k)  v4 v5 st
theorem wX11_steady_L205 (C : Cx p s m args meth c cX11_steady 6 wsL_law RX11 (some .int) D G ad) (n : Nat) (K110 : Int32 → St → Option (Int32 × St))   (res : (Int32 × St)) (hK110 : ∀ (v4 : Int32) (st : St), K110 v4 st = some res → At p l e (rmK 1) s m args below meth c D G ad (MQI D G ad below args s res) 6 st [(0, .ref (ad 130)), (4, .int v4)] 110 []) : ∀ (k : Nat) (v4 : Int32) (v5 : Int32)  (st : St), fX11_steady_L205 n K110 k v4 v5 st = some res → At p l e (rmK 1) s m args below meth c D G ad (MQI D G ad below args s res) 6 st [(0, .ref (ad 130)), (4, .int v4), (5, .int v5)] 205 [] := by
  intro k
  induction k with
  | zero => intro v4 v5  st h; exact absurd h (by intro q; cases q)
  | succ k ih => intro v4 v5  st h; exact wX11_steady_s205 C n K110 (fX11_steady_L205 n K110 k)  v4 v5   st res hK110 ih h
def fX11_steady_s202 (n : Nat) (K110 : Int32 → St → Option (Int32 × St))  (v4 : Int32) (st : St) : Option (Int32 × St) := fX11_steady_L205 n K110 n v4 0 st
set_option maxHeartbeats 4000000 in
set_option maxRecDepth 100000 in
theorem wX11_steady_s202 (C : Cx p s m args meth c cX11_steady 6 wsL_law RX11 (some .int) D G ad) (n : Nat) (K110 : Int32 → St → Option (Int32 × St))  (v4 : Int32)   (st : St) (res : (Int32 × St)) (hK110 : ∀ (v4 : Int32) (st : St), K110 v4 st = some res → At p l e (rmK 1) s m args below meth c D G ad (MQI D G ad below args s res) 6 st [(0, .ref (ad 130)), (4, .int v4)] 110 []) (hf : fX11_steady_s202 n K110  v4 st = some res) : At p l e (rmK 1) s m args below meth c D G ad (MQI D G ad below args s res) 6 st [(0, .ref (ad 130)), (4, .int v4)] 202 [] := by
  obtain ⟨hx, hb, hml, hown, hts, hr, hlk, hK, had, hSt⟩ := id C
  intro H locs ls hl hP hS
  unfold fX11_steady_s202 at hf
  refine lv_iconst (v := 0) hx hb dX11_steady_202 (by decide) ?_
  refine lv_istore (lv' := [(5, .int 0), (0, .ref (ad 130)), (4, .int v4)]) hx hb dX11_steady_203 hl (by decide) rfl (fun ls hl => ?_)
  exact wX11_steady_L205 C n K110 res hK110 n v4 0 st hf H locs ls (lv_sub hl [1, 2, 0] rfl) hP hS
def fX11_steady_s196 (n : Nat) (K110 : Int32 → St → Option (Int32 × St)) (K149 : Int32 → Int32 → St → Option (Int32 × St))  (v4 : Int32) (v5 : Int32) (st : St) : Option (Int32 × St) := K149 v4 (v5 + 1) st
set_option maxHeartbeats 4000000 in
set_option maxRecDepth 100000 in
theorem wX11_steady_s196 (C : Cx p s m args meth c cX11_steady 6 wsL_law RX11 (some .int) D G ad) (n : Nat) (K110 : Int32 → St → Option (Int32 × St)) (K149 : Int32 → Int32 → St → Option (Int32 × St))  (v4 : Int32) (v5 : Int32)   (st : St) (res : (Int32 × St)) (hK110 : ∀ (v4 : Int32) (st : St), K110 v4 st = some res → At p l e (rmK 1) s m args below meth c D G ad (MQI D G ad below args s res) 6 st [(0, .ref (ad 130)), (4, .int v4)] 110 []) (hK149 : ∀ (v4 : Int32) (v5 : Int32) (st : St), K149 v4 v5 st = some res → At p l e (rmK 1) s m args below meth c D G ad (MQI D G ad below args s res) 6 st [(0, .ref (ad 130)), (4, .int v4), (5, .int v5)] 149 []) (hf : fX11_steady_s196 n K110 K149  v4 v5 st = some res) : At p l e (rmK 1) s m args below meth c D G ad (MQI D G ad below args s res) 6 st [(0, .ref (ad 130)), (4, .int v4), (5, .int v5)] 196 [] := by
  obtain ⟨hx, hb, hml, hown, hts, hr, hlk, hK, had, hSt⟩ := id C
  intro H locs ls hl hP hS
  unfold fX11_steady_s196 at hf
  refine lv_iinc (v := v5 + 1) (lv' := [(5, .int (v5 + 1)), (0, .ref (ad 130)), (4, .int v4)]) hx hb dX11_steady_196 hl (k := 2) rfl rfl (by decide) rfl (fun ls hl => ?_)
  refine lv_goto (tgt := 149) hx hb dX11_steady_199 (by decide) ?_
  exact hK149 v4 (v5 + 1)  st hf H locs ls (lv_sub hl [1, 2, 0] rfl) hP hS
def fX11_steady_s156 (n : Nat) (K110 : Int32 → St → Option (Int32 × St)) (K149 : Int32 → Int32 → St → Option (Int32 × St))  (v4 : Int32) (v5 : Int32) (st : St) : Option (Int32 × St) := if inb 0 5 = true then (if inb v5 5 = true then (if inb v4 5 = true then (if inb (v4 - v5) 5 = true then (if inb v5 5 = true then (fX11_steady_s196 n K110 K149 v4 v5 (setJ st 164 v5.toNatClampNeg (((st.2 163 (0 : Int32).toNatClampNeg) * (st.2 163 v5.toNatClampNeg)) - ((st.2 163 v4.toNatClampNeg) * (st.2 163 (v4 - v5).toNatClampNeg))))) else none) else none) else none) else none) else none
set_option maxHeartbeats 4000000 in
set_option maxRecDepth 100000 in
theorem wX11_steady_s156 (C : Cx p s m args meth c cX11_steady 6 wsL_law RX11 (some .int) D G ad) (n : Nat) (K110 : Int32 → St → Option (Int32 × St)) (K149 : Int32 → Int32 → St → Option (Int32 × St))  (v4 : Int32) (v5 : Int32)   (st : St) (res : (Int32 × St)) (hK110 : ∀ (v4 : Int32) (st : St), K110 v4 st = some res → At p l e (rmK 1) s m args below meth c D G ad (MQI D G ad below args s res) 6 st [(0, .ref (ad 130)), (4, .int v4)] 110 []) (hK149 : ∀ (v4 : Int32) (v5 : Int32) (st : St), K149 v4 v5 st = some res → At p l e (rmK 1) s m args below meth c D G ad (MQI D G ad below args s res) 6 st [(0, .ref (ad 130)), (4, .int v4), (5, .int v5)] 149 []) (hf : fX11_steady_s156 n K110 K149  v4 v5 st = some res) : At p l e (rmK 1) s m args below meth c D G ad (MQI D G ad below args s res) 6 st [(0, .ref (ad 130)), (4, .int v4), (5, .int v5)] 156 [] := by
  obtain ⟨hx, hb, hml, hown, hts, hr, hlk, hK, had, hSt⟩ := id C
  intro H locs ls hl hP hS
  unfold fX11_steady_s156 at hf
  refine lv_aload_n hx hb dX11_steady_156 rfl (lv_at hl 0 rfl) ?_
  refine g_getR hx hb hts inlX11 hown hK hP 130 ct_130 rfl 57 (by decide) (hts _ wm_8_16) rfl dX11_steady_157 ?_
  refine lv_iload hx hb dX11_steady_160 (lv_at hl 2 rfl) ?_
  refine lv_aload_n hx hb dX11_steady_162 rfl (lv_at hl 0 rfl) ?_
  refine g_getR hx hb hts inlX11 hown hK hP 130 ct_130 rfl 56 (by decide) (hts _ wm_8_15) rfl dX11_steady_163 ?_
  refine lv_iconst (v := 0) hx hb dX11_steady_166 (by decide) ?_
  obtain ⟨g1, hf⟩ := gd hf
  refine g_lald hx hb hK hP 163 ct_163 g1 dX11_steady_167 ?_
  refine lv_aload_n hx hb dX11_steady_168 rfl (lv_at hl 0 rfl) ?_
  refine g_getR hx hb hts inlX11 hown hK hP 130 ct_130 rfl 56 (by decide) (hts _ wm_8_15) rfl dX11_steady_169 ?_
  refine lv_iload hx hb dX11_steady_172 (lv_at hl 2 rfl) ?_
  obtain ⟨g2, hf⟩ := gd hf
  refine g_lald hx hb hK hP 163 ct_163 g2 dX11_steady_174 ?_
  refine lv_lmul hx hb dX11_steady_175 ?_
  refine lv_aload_n hx hb dX11_steady_176 rfl (lv_at hl 0 rfl) ?_
  refine g_getR hx hb hts inlX11 hown hK hP 130 ct_130 rfl 56 (by decide) (hts _ wm_8_15) rfl dX11_steady_177 ?_
  refine lv_iload hx hb dX11_steady_180 (lv_at hl 1 rfl) ?_
  obtain ⟨g3, hf⟩ := gd hf
  refine g_lald hx hb hK hP 163 ct_163 g3 dX11_steady_182 ?_
  refine lv_aload_n hx hb dX11_steady_183 rfl (lv_at hl 0 rfl) ?_
  refine g_getR hx hb hts inlX11 hown hK hP 130 ct_130 rfl 56 (by decide) (hts _ wm_8_15) rfl dX11_steady_184 ?_
  refine lv_iload hx hb dX11_steady_187 (lv_at hl 1 rfl) ?_
  refine lv_iload hx hb dX11_steady_189 (lv_at hl 2 rfl) ?_
  refine lv_isub hx hb dX11_steady_191 ?_
  obtain ⟨g4, hf⟩ := gd hf
  refine g_lald hx hb hK hP 163 ct_163 g4 dX11_steady_192 ?_
  refine lv_lmul hx hb dX11_steady_193 ?_
  refine lv_lsub hx hb dX11_steady_194 ?_
  obtain ⟨g5, hf⟩ := gd hf
  refine g_last hx hb hK had hP hS 164 ct_164 g5 dX11_steady_195 (fun H locs hP hS => ?_)
  exact wX11_steady_s196 C n K110 K149 v4 v5 (setJ st 164 v5.toNatClampNeg (((st.2 163 (0 : Int32).toNatClampNeg) * (st.2 163 v5.toNatClampNeg)) - ((st.2 163 v4.toNatClampNeg) * (st.2 163 (v4 - v5).toNatClampNeg)))) res hK110 hK149 hf H locs ls (lv_sub hl [0, 1, 2] rfl) hP hS
def fX11_steady_s149 (n : Nat) (K110 : Int32 → St → Option (Int32 × St)) (K149 : Int32 → Int32 → St → Option (Int32 × St))  (v4 : Int32) (v5 : Int32) (st : St) : Option (Int32 × St) := if v4 ≤ v5 then fX11_steady_s202 n K110 v4 st else fX11_steady_s156 n K110 K149 v4 v5 st
set_option maxHeartbeats 4000000 in
set_option maxRecDepth 100000 in
theorem wX11_steady_s149 (C : Cx p s m args meth c cX11_steady 6 wsL_law RX11 (some .int) D G ad) (n : Nat) (K110 : Int32 → St → Option (Int32 × St)) (K149 : Int32 → Int32 → St → Option (Int32 × St))  (v4 : Int32) (v5 : Int32)   (st : St) (res : (Int32 × St)) (hK110 : ∀ (v4 : Int32) (st : St), K110 v4 st = some res → At p l e (rmK 1) s m args below meth c D G ad (MQI D G ad below args s res) 6 st [(0, .ref (ad 130)), (4, .int v4)] 110 []) (hK149 : ∀ (v4 : Int32) (v5 : Int32) (st : St), K149 v4 v5 st = some res → At p l e (rmK 1) s m args below meth c D G ad (MQI D G ad below args s res) 6 st [(0, .ref (ad 130)), (4, .int v4), (5, .int v5)] 149 []) (hf : fX11_steady_s149 n K110 K149  v4 v5 st = some res) : At p l e (rmK 1) s m args below meth c D G ad (MQI D G ad below args s res) 6 st [(0, .ref (ad 130)), (4, .int v4), (5, .int v5)] 149 [] := by
  obtain ⟨hx, hb, hml, hown, hts, hr, hlk, hK, had, hSt⟩ := id C
  intro H locs ls hl hP hS
  unfold fX11_steady_s149 at hf
  refine lv_iload hx hb dX11_steady_149 (lv_at hl 2 rfl) ?_
  refine lv_iload hx hb dX11_steady_151 (lv_at hl 1 rfl) ?_
  refine lv_icmp_ge (tgt := 202) hx hb dX11_steady_153 (by decide) (fun q => ?_) (fun q => ?_)
  · exact wX11_steady_s202 C n K110 v4 st res hK110 (it hf q) H locs ls (lv_sub hl [0, 1] rfl) hP hS
  · exact wX11_steady_s156 C n K110 K149 v4 v5 st res hK110 hK149 (ie hf q) H locs ls (lv_sub hl [0, 1, 2] rfl) hP hS
def fX11_steady_L149 (n : Nat) (K110 : Int32 → St → Option (Int32 × St))  : Nat → Int32 → Int32 → St → Option (Int32 × St)
  | 0, _, _, _ => none
  | k + 1, v4, v5, st => fX11_steady_s149 n K110 (fX11_steady_L149 n K110 k)  v4 v5 st
theorem wX11_steady_L149 (C : Cx p s m args meth c cX11_steady 6 wsL_law RX11 (some .int) D G ad) (n : Nat) (K110 : Int32 → St → Option (Int32 × St))   (res : (Int32 × St)) (hK110 : ∀ (v4 : Int32) (st : St), K110 v4 st = some res → At p l e (rmK 1) s m args below meth c D G ad (MQI D G ad below args s res) 6 st [(0, .ref (ad 130)), (4, .int v4)] 110 []) : ∀ (k : Nat) (v4 : Int32) (v5 : Int32)  (st : St), fX11_steady_L149 n K110 k v4 v5 st = some res → At p l e (rmK 1) s m args below meth c D G ad (MQI D G ad below args s res) 6 st [(0, .ref (ad 130)), (4, .int v4), (5, .int v5)] 149 [] := by
  intro k
  induction k with
  | zero => intro v4 v5  st h; exact absurd h (by intro q; cases q)
  | succ k ih => intro v4 v5  st h; exact wX11_steady_s149 C n K110 (fX11_steady_L149 n K110 k)  v4 v5   st res hK110 ih h
def fX11_steady_s146 (n : Nat) (K110 : Int32 → St → Option (Int32 × St))  (v4 : Int32) (st : St) : Option (Int32 × St) := fX11_steady_L149 n K110 n v4 0 st
set_option maxHeartbeats 4000000 in
set_option maxRecDepth 100000 in
theorem wX11_steady_s146 (C : Cx p s m args meth c cX11_steady 6 wsL_law RX11 (some .int) D G ad) (n : Nat) (K110 : Int32 → St → Option (Int32 × St))  (v4 : Int32)   (st : St) (res : (Int32 × St)) (hK110 : ∀ (v4 : Int32) (st : St), K110 v4 st = some res → At p l e (rmK 1) s m args below meth c D G ad (MQI D G ad below args s res) 6 st [(0, .ref (ad 130)), (4, .int v4)] 110 []) (hf : fX11_steady_s146 n K110  v4 st = some res) : At p l e (rmK 1) s m args below meth c D G ad (MQI D G ad below args s res) 6 st [(0, .ref (ad 130)), (4, .int v4)] 146 [] := by
  obtain ⟨hx, hb, hml, hown, hts, hr, hlk, hK, had, hSt⟩ := id C
  intro H locs ls hl hP hS
  unfold fX11_steady_s146 at hf
  refine lv_iconst (v := 0) hx hb dX11_steady_146 (by decide) ?_
  refine lv_istore (lv' := [(5, .int 0), (0, .ref (ad 130)), (4, .int v4)]) hx hb dX11_steady_147 hl (by decide) rfl (fun ls hl => ?_)
  exact wX11_steady_L149 C n K110 res hK110 n v4 0 st hf H locs ls (lv_sub hl [1, 2, 0] rfl) hP hS
def fX11_steady_s140 (n : Nat) (K110 : Int32 → St → Option (Int32 × St))  (v4 : Int32) (st : St) : Option (Int32 × St) := if v4 ≤ 1 then fX11_steady_s232 n K110 v4 st else fX11_steady_s146 n K110 v4 st
set_option maxHeartbeats 4000000 in
set_option maxRecDepth 100000 in
theorem wX11_steady_s140 (C : Cx p s m args meth c cX11_steady 6 wsL_law RX11 (some .int) D G ad) (n : Nat) (K110 : Int32 → St → Option (Int32 × St))  (v4 : Int32)   (st : St) (res : (Int32 × St)) (hK110 : ∀ (v4 : Int32) (st : St), K110 v4 st = some res → At p l e (rmK 1) s m args below meth c D G ad (MQI D G ad below args s res) 6 st [(0, .ref (ad 130)), (4, .int v4)] 110 []) (hf : fX11_steady_s140 n K110  v4 st = some res) : At p l e (rmK 1) s m args below meth c D G ad (MQI D G ad below args s res) 6 st [(0, .ref (ad 130)), (4, .int v4)] 140 [] := by
  obtain ⟨hx, hb, hml, hown, hts, hr, hlk, hK, had, hSt⟩ := id C
  intro H locs ls hl hP hS
  unfold fX11_steady_s140 at hf
  refine lv_iload hx hb dX11_steady_140 (lv_at hl 1 rfl) ?_
  refine lv_iconst (v := 1) hx hb dX11_steady_142 (by decide) ?_
  refine lv_icmp_le (tgt := 232) hx hb dX11_steady_143 (by decide) (fun q => ?_) (fun q => ?_)
  · exact wX11_steady_s232 C n K110 v4 st res hK110 (it hf q) H locs ls (lv_sub hl [0, 1] rfl) hP hS
  · exact wX11_steady_s146 C n K110 v4 st res hK110 (ie hf q) H locs ls (lv_sub hl [0, 1] rfl) hP hS
def fX11_steady_s138 (n : Nat)    (st : St) : Option (Int32 × St) := some (0, st)
set_option maxHeartbeats 4000000 in
set_option maxRecDepth 100000 in
theorem wX11_steady_s138 (C : Cx p s m args meth c cX11_steady 6 wsL_law RX11 (some .int) D G ad) (n : Nat)      (st : St) (res : (Int32 × St))  (hf : fX11_steady_s138 n    st = some res) : At p l e (rmK 1) s m args below meth c D G ad (MQI D G ad below args s res) 6 st [] 138 [] := by
  obtain ⟨hx, hb, hml, hown, hts, hr, hlk, hK, had, hSt⟩ := id C
  intro H locs ls hl hP hS
  unfold fX11_steady_s138 at hf
  refine lv_iconst (v := 0) hx hb dX11_steady_138 (by decide) ?_
  exact g_iret hx hb hr hlk hP hS dX11_steady_139 hf
def fX11_steady_s134 (n : Nat) (K110 : Int32 → St → Option (Int32 × St))  (v4 : Int32) (k0 : Int64) (k1 : Int64) (st : St) : Option (Int32 × St) := if k1 < k0 then fX11_steady_s140 n K110 v4 st else fX11_steady_s138 n st
set_option maxHeartbeats 4000000 in
set_option maxRecDepth 100000 in
theorem wX11_steady_s134 (C : Cx p s m args meth c cX11_steady 6 wsL_law RX11 (some .int) D G ad) (n : Nat) (K110 : Int32 → St → Option (Int32 × St))  (v4 : Int32) (k0 : Int64) (k1 : Int64)   (st : St) (res : (Int32 × St)) (hK110 : ∀ (v4 : Int32) (st : St), K110 v4 st = some res → At p l e (rmK 1) s m args below meth c D G ad (MQI D G ad below args s res) 6 st [(0, .ref (ad 130)), (4, .int v4)] 110 []) (hf : fX11_steady_s134 n K110  v4 k0 k1 st = some res) : At p l e (rmK 1) s m args below meth c D G ad (MQI D G ad below args s res) 6 st [(0, .ref (ad 130)), (4, .int v4)] 134 [.long k1, .long k0] := by
  obtain ⟨hx, hb, hml, hown, hts, hr, hlk, hK, had, hSt⟩ := id C
  intro H locs ls hl hP hS
  unfold fX11_steady_s134 at hf
  refine g_lcmp_gt (tgt := 140) hx hb dX11_steady_134 dX11_steady_135 (by decide) (fun q => ?_) (fun q => ?_)
  · exact wX11_steady_s140 C n K110 v4 st res hK110 (it hf q) H locs ls (lv_sub hl [0, 1] rfl) hP hS
  · exact wX11_steady_s138 C n st res (ie hf q) H locs ls (lv_sub hl [] rfl) hP hS
def fX11_steady_s124 (n : Nat) (K110 : Int32 → St → Option (Int32 × St))  (v4 : Int32) (k0 : Int64) (st : St) : Option (Int32 × St) := if inb v4 5 = true then ((fX11_size n (st.2 163 v4.toNatClampNeg) st).bind (fun q => fX11_steady_s134 n K110 v4 k0 q.1 q.2)) else none
set_option maxHeartbeats 4000000 in
set_option maxRecDepth 100000 in
theorem wX11_steady_s124 (C : Cx p s m args meth c cX11_steady 6 wsL_law RX11 (some .int) D G ad) (n : Nat) (K110 : Int32 → St → Option (Int32 × St))  (v4 : Int32) (k0 : Int64)   (st : St) (res : (Int32 × St)) (hK110 : ∀ (v4 : Int32) (st : St), K110 v4 st = some res → At p l e (rmK 1) s m args below meth c D G ad (MQI D G ad below args s res) 6 st [(0, .ref (ad 130)), (4, .int v4)] 110 []) (hf : fX11_steady_s124 n K110  v4 k0 st = some res) : At p l e (rmK 1) s m args below meth c D G ad (MQI D G ad below args s res) 6 st [(0, .ref (ad 130)), (4, .int v4)] 124 [.long k0] := by
  obtain ⟨hx, hb, hml, hown, hts, hr, hlk, hK, had, hSt⟩ := id C
  intro H locs ls hl hP hS
  unfold fX11_steady_s124 at hf
  refine lv_aload_n hx hb dX11_steady_124 rfl (lv_at hl 0 rfl) ?_
  refine g_getR hx hb hts inlX11 hown hK hP 130 ct_130 rfl 56 (by decide) (hts _ wm_8_15) rfl dX11_steady_125 ?_
  refine lv_iload hx hb dX11_steady_128 (lv_at hl 1 rfl) ?_
  obtain ⟨g1, hf⟩ := gd hf
  refine g_lald hx hb hK hP 163 ct_163 g1 dX11_steady_130 ?_
  obtain ⟨q, hq, hf⟩ := bd hf
  refine gcS_j (k := 0) (As := [.long (st.2 163 v4.toNatClampNeg)]) (rest := [.long k0]) hx hb hml hown hts hK hSt hP hS hl.1 (goodS wm_39_21 wm_39_22 wm_1_5 wm_39_23) okX11_size (Nat.le_of_ble_eq_true rfl) (Nat.le_of_ble_eq_true rfl) rfl rfl (Nat.le_of_ble_eq_true rfl) dX11_steady_131 (kX11_size l D G ad had n  (st.2 163 v4.toNatClampNeg) st q hq) (fun H locs hP hS => ?_)
  exact wX11_steady_s134 C n K110 v4 k0 q.1 q.2 res hK110 hf H locs ls (lv_sub hl [0, 1] rfl) hP hS
def fX11_steady_s115 (n : Nat) (K110 : Int32 → St → Option (Int32 × St))  (v4 : Int32) (st : St) : Option (Int32 × St) := if inb 0 5 = true then ((fX11_size n (st.2 163 (0 : Int32).toNatClampNeg) st).bind (fun q => fX11_steady_s124 n K110 v4 q.1 q.2)) else none
set_option maxHeartbeats 4000000 in
set_option maxRecDepth 100000 in
theorem wX11_steady_s115 (C : Cx p s m args meth c cX11_steady 6 wsL_law RX11 (some .int) D G ad) (n : Nat) (K110 : Int32 → St → Option (Int32 × St))  (v4 : Int32)   (st : St) (res : (Int32 × St)) (hK110 : ∀ (v4 : Int32) (st : St), K110 v4 st = some res → At p l e (rmK 1) s m args below meth c D G ad (MQI D G ad below args s res) 6 st [(0, .ref (ad 130)), (4, .int v4)] 110 []) (hf : fX11_steady_s115 n K110  v4 st = some res) : At p l e (rmK 1) s m args below meth c D G ad (MQI D G ad below args s res) 6 st [(0, .ref (ad 130)), (4, .int v4)] 115 [] := by
  obtain ⟨hx, hb, hml, hown, hts, hr, hlk, hK, had, hSt⟩ := id C
  intro H locs ls hl hP hS
  unfold fX11_steady_s115 at hf
  refine lv_aload_n hx hb dX11_steady_115 rfl (lv_at hl 0 rfl) ?_
  refine g_getR hx hb hts inlX11 hown hK hP 130 ct_130 rfl 56 (by decide) (hts _ wm_8_15) rfl dX11_steady_116 ?_
  refine lv_iconst (v := 0) hx hb dX11_steady_119 (by decide) ?_
  obtain ⟨g1, hf⟩ := gd hf
  refine g_lald hx hb hK hP 163 ct_163 g1 dX11_steady_120 ?_
  obtain ⟨q, hq, hf⟩ := bd hf
  refine gcS_j (k := 0) (As := [.long (st.2 163 (0 : Int32).toNatClampNeg)]) (rest := []) hx hb hml hown hts hK hSt hP hS hl.1 (goodS wm_39_21 wm_39_22 wm_1_5 wm_39_23) okX11_size (Nat.le_of_ble_eq_true rfl) (Nat.le_of_ble_eq_true rfl) rfl rfl (Nat.le_of_ble_eq_true rfl) dX11_steady_121 (kX11_size l D G ad had n  (st.2 163 (0 : Int32).toNatClampNeg) st q hq) (fun H locs hP hS => ?_)
  exact wX11_steady_s124 C n K110 v4 q.1 q.2 res hK110 hf H locs ls (lv_sub hl [0, 1] rfl) hP hS
def fX11_steady_s110 (n : Nat) (K110 : Int32 → St → Option (Int32 × St))  (v4 : Int32) (st : St) : Option (Int32 × St) := if v4 ≤ 0 then fX11_steady_s238 n st else fX11_steady_s115 n K110 v4 st
set_option maxHeartbeats 4000000 in
set_option maxRecDepth 100000 in
theorem wX11_steady_s110 (C : Cx p s m args meth c cX11_steady 6 wsL_law RX11 (some .int) D G ad) (n : Nat) (K110 : Int32 → St → Option (Int32 × St))  (v4 : Int32)   (st : St) (res : (Int32 × St)) (hK110 : ∀ (v4 : Int32) (st : St), K110 v4 st = some res → At p l e (rmK 1) s m args below meth c D G ad (MQI D G ad below args s res) 6 st [(0, .ref (ad 130)), (4, .int v4)] 110 []) (hf : fX11_steady_s110 n K110  v4 st = some res) : At p l e (rmK 1) s m args below meth c D G ad (MQI D G ad below args s res) 6 st [(0, .ref (ad 130)), (4, .int v4)] 110 [] := by
  obtain ⟨hx, hb, hml, hown, hts, hr, hlk, hK, had, hSt⟩ := id C
  intro H locs ls hl hP hS
  unfold fX11_steady_s110 at hf
  refine lv_iload hx hb dX11_steady_110 (lv_at hl 1 rfl) ?_
  refine lv_if_le (tgt := 238) hx hb dX11_steady_112 (by decide) (fun q => ?_) (fun q => ?_)
  · exact wX11_steady_s238 C n st res (it hf q) H locs ls (lv_sub hl [] rfl) hP hS
  · exact wX11_steady_s115 C n K110 v4 st res hK110 (ie hf q) H locs ls (lv_sub hl [0, 1] rfl) hP hS
def fX11_steady_L110 (n : Nat)   : Nat → Int32 → St → Option (Int32 × St)
  | 0, _, _ => none
  | k + 1, v4, st => fX11_steady_s110 n (fX11_steady_L110 n k)  v4 st
theorem wX11_steady_L110 (C : Cx p s m args meth c cX11_steady 6 wsL_law RX11 (some .int) D G ad) (n : Nat)    (res : (Int32 × St))  : ∀ (k : Nat) (v4 : Int32)  (st : St), fX11_steady_L110 n k v4 st = some res → At p l e (rmK 1) s m args below meth c D G ad (MQI D G ad below args s res) 6 st [(0, .ref (ad 130)), (4, .int v4)] 110 [] := by
  intro k
  induction k with
  | zero => intro v4  st h; exact absurd h (by intro q; cases q)
  | succ k ih => intro v4  st h; exact wX11_steady_s110 C n (fX11_steady_L110 n k)  v4   st res ih h
def fX11_steady_s107 (n : Nat)   (v3 : Int32) (st : St) : Option (Int32 × St) := fX11_steady_L110 n n v3 st
set_option maxHeartbeats 4000000 in
set_option maxRecDepth 100000 in
theorem wX11_steady_s107 (C : Cx p s m args meth c cX11_steady 6 wsL_law RX11 (some .int) D G ad) (n : Nat)   (v3 : Int32)   (st : St) (res : (Int32 × St))  (hf : fX11_steady_s107 n   v3 st = some res) : At p l e (rmK 1) s m args below meth c D G ad (MQI D G ad below args s res) 6 st [(0, .ref (ad 130)), (3, .int v3)] 107 [] := by
  obtain ⟨hx, hb, hml, hown, hts, hr, hlk, hK, had, hSt⟩ := id C
  intro H locs ls hl hP hS
  unfold fX11_steady_s107 at hf
  refine lv_iload_n hx hb dX11_steady_107 rfl (lv_at hl 1 rfl) ?_
  refine lv_istore (lv' := [(4, .int v3), (0, .ref (ad 130)), (3, .int v3)]) hx hb dX11_steady_108 hl (by decide) rfl (fun ls hl => ?_)
  exact wX11_steady_L110 C n res n v3 st hf H locs ls (lv_sub hl [1, 0] rfl) hP hS
def fX11_steady_s104 (n : Nat)    (st : St) : Option (Int32 × St) := some ((-2), st)
set_option maxHeartbeats 4000000 in
set_option maxRecDepth 100000 in
theorem wX11_steady_s104 (C : Cx p s m args meth c cX11_steady 6 wsL_law RX11 (some .int) D G ad) (n : Nat)      (st : St) (res : (Int32 × St))  (hf : fX11_steady_s104 n    st = some res) : At p l e (rmK 1) s m args below meth c D G ad (MQI D G ad below args s res) 6 st [] 104 [] := by
  obtain ⟨hx, hb, hml, hown, hts, hr, hlk, hK, had, hSt⟩ := id C
  intro H locs ls hl hP hS
  unfold fX11_steady_s104 at hf
  refine lv_bipush (v := (-2)) hx hb dX11_steady_104 (by decide) ?_
  exact g_iret hx hb hr hlk hP hS dX11_steady_106 hf
def fX11_steady_s93 (n : Nat)   (v3 : Int32) (st : St) : Option (Int32 × St) := if inb 0 5 = true then (if (st.2 163 (0 : Int32).toNatClampNeg) = 0 then fX11_steady_s104 n st else fX11_steady_s107 n v3 st) else none
set_option maxHeartbeats 4000000 in
set_option maxRecDepth 100000 in
theorem wX11_steady_s93 (C : Cx p s m args meth c cX11_steady 6 wsL_law RX11 (some .int) D G ad) (n : Nat)   (v3 : Int32)   (st : St) (res : (Int32 × St))  (hf : fX11_steady_s93 n   v3 st = some res) : At p l e (rmK 1) s m args below meth c D G ad (MQI D G ad below args s res) 6 st [(0, .ref (ad 130)), (3, .int v3)] 93 [] := by
  obtain ⟨hx, hb, hml, hown, hts, hr, hlk, hK, had, hSt⟩ := id C
  intro H locs ls hl hP hS
  unfold fX11_steady_s93 at hf
  refine lv_aload_n hx hb dX11_steady_93 rfl (lv_at hl 0 rfl) ?_
  refine g_getR hx hb hts inlX11 hown hK hP 130 ct_130 rfl 56 (by decide) (hts _ wm_8_15) rfl dX11_steady_94 ?_
  refine lv_iconst (v := 0) hx hb dX11_steady_97 (by decide) ?_
  obtain ⟨g1, hf⟩ := gd hf
  refine g_lald hx hb hK hP 163 ct_163 g1 dX11_steady_98 ?_
  refine lv_lconst (v := 0) hx hb dX11_steady_99 (by decide) ?_
  refine g_lcmp_ne (tgt := 107) hx hb dX11_steady_100 dX11_steady_101 (by decide) (fun q => ?_) (fun q => ?_)
  · exact wX11_steady_s107 C n v3 st res (ie hf q) H locs ls (lv_sub hl [0, 1] rfl) hP hS
  · exact wX11_steady_s104 C n st res (it hf q) H locs ls (lv_sub hl [] rfl) hP hS
def fX11_steady_s87 (n : Nat) (K37 : Int64 → Int32 → Int32 → St → Option (Int32 × St))  (v1 : Int64) (v3 : Int32) (v4 : Int32) (st : St) : Option (Int32 × St) := K37 v1 v3 (v4 + 1) st
set_option maxHeartbeats 4000000 in
set_option maxRecDepth 100000 in
theorem wX11_steady_s87 (C : Cx p s m args meth c cX11_steady 6 wsL_law RX11 (some .int) D G ad) (n : Nat) (K37 : Int64 → Int32 → Int32 → St → Option (Int32 × St))  (v1 : Int64) (v3 : Int32) (v4 : Int32)   (st : St) (res : (Int32 × St)) (hK37 : ∀ (v1 : Int64) (v3 : Int32) (v4 : Int32) (st : St), K37 v1 v3 v4 st = some res → At p l e (rmK 1) s m args below meth c D G ad (MQI D G ad below args s res) 6 st [(0, .ref (ad 130)), (1, .long v1), (3, .int v3), (4, .int v4)] 37 []) (hf : fX11_steady_s87 n K37  v1 v3 v4 st = some res) : At p l e (rmK 1) s m args below meth c D G ad (MQI D G ad below args s res) 6 st [(0, .ref (ad 130)), (1, .long v1), (3, .int v3), (4, .int v4)] 87 [] := by
  obtain ⟨hx, hb, hml, hown, hts, hr, hlk, hK, had, hSt⟩ := id C
  intro H locs ls hl hP hS
  unfold fX11_steady_s87 at hf
  refine lv_iinc (v := v4 + 1) (lv' := [(4, .int (v4 + 1)), (0, .ref (ad 130)), (1, .long v1), (3, .int v3)]) hx hb dX11_steady_87 hl (k := 3) rfl rfl (by decide) rfl (fun ls hl => ?_)
  refine lv_goto (tgt := 37) hx hb dX11_steady_90 (by decide) ?_
  exact hK37 v1 v3 (v4 + 1)  st hf H locs ls (lv_sub hl [1, 2, 3, 0] rfl) hP hS
def fX11_steady_s84 (n : Nat)    (st : St) : Option (Int32 × St) := some ((-2), st)
set_option maxHeartbeats 4000000 in
set_option maxRecDepth 100000 in
theorem wX11_steady_s84 (C : Cx p s m args meth c cX11_steady 6 wsL_law RX11 (some .int) D G ad) (n : Nat)      (st : St) (res : (Int32 × St))  (hf : fX11_steady_s84 n    st = some res) : At p l e (rmK 1) s m args below meth c D G ad (MQI D G ad below args s res) 6 st [] 84 [] := by
  obtain ⟨hx, hb, hml, hown, hts, hr, hlk, hK, had, hSt⟩ := id C
  intro H locs ls hl hP hS
  unfold fX11_steady_s84 at hf
  refine lv_bipush (v := (-2)) hx hb dX11_steady_84 (by decide) ?_
  exact g_iret hx hb hr hlk hP hS dX11_steady_86 hf
def fX11_steady_s81 (n : Nat) (K37 : Int64 → Int32 → Int32 → St → Option (Int32 × St))  (v1 : Int64) (v3 : Int32) (v4 : Int32) (k0 : Int32) (st : St) : Option (Int32 × St) := if k0 = 0 then fX11_steady_s84 n st else fX11_steady_s87 n K37 v1 v3 v4 st
set_option maxHeartbeats 4000000 in
set_option maxRecDepth 100000 in
theorem wX11_steady_s81 (C : Cx p s m args meth c cX11_steady 6 wsL_law RX11 (some .int) D G ad) (n : Nat) (K37 : Int64 → Int32 → Int32 → St → Option (Int32 × St))  (v1 : Int64) (v3 : Int32) (v4 : Int32) (k0 : Int32)   (st : St) (res : (Int32 × St)) (hK37 : ∀ (v1 : Int64) (v3 : Int32) (v4 : Int32) (st : St), K37 v1 v3 v4 st = some res → At p l e (rmK 1) s m args below meth c D G ad (MQI D G ad below args s res) 6 st [(0, .ref (ad 130)), (1, .long v1), (3, .int v3), (4, .int v4)] 37 []) (hf : fX11_steady_s81 n K37  v1 v3 v4 k0 st = some res) : At p l e (rmK 1) s m args below meth c D G ad (MQI D G ad below args s res) 6 st [(0, .ref (ad 130)), (1, .long v1), (3, .int v3), (4, .int v4)] 81 [.int k0] := by
  obtain ⟨hx, hb, hml, hown, hts, hr, hlk, hK, had, hSt⟩ := id C
  intro H locs ls hl hP hS
  unfold fX11_steady_s81 at hf
  refine lv_if_ne (tgt := 87) hx hb dX11_steady_81 (by decide) (fun q => ?_) (fun q => ?_)
  · exact wX11_steady_s87 C n K37 v1 v3 v4 st res hK37 (ie hf q) H locs ls (lv_sub hl [0, 1, 2, 3] rfl) hP hS
  · exact wX11_steady_s84 C n st res (it hf q) H locs ls (lv_sub hl [] rfl) hP hS
def fX11_steady_s65 (n : Nat) (K37 : Int64 → Int32 → Int32 → St → Option (Int32 × St))  (v1 : Int64) (v3 : Int32) (v4 : Int32) (st : St) : Option (Int32 × St) := if inb v4 5 = true then ((fX11_in n (st.2 163 v4.toNatClampNeg) (-99) 99 st).bind (fun q => fX11_steady_s81 n K37 v1 v3 v4 q.1 q.2)) else none
set_option maxHeartbeats 4000000 in
set_option maxRecDepth 100000 in
theorem wX11_steady_s65 (C : Cx p s m args meth c cX11_steady 6 wsL_law RX11 (some .int) D G ad) (n : Nat) (K37 : Int64 → Int32 → Int32 → St → Option (Int32 × St))  (v1 : Int64) (v3 : Int32) (v4 : Int32)   (st : St) (res : (Int32 × St)) (hK37 : ∀ (v1 : Int64) (v3 : Int32) (v4 : Int32) (st : St), K37 v1 v3 v4 st = some res → At p l e (rmK 1) s m args below meth c D G ad (MQI D G ad below args s res) 6 st [(0, .ref (ad 130)), (1, .long v1), (3, .int v3), (4, .int v4)] 37 []) (hf : fX11_steady_s65 n K37  v1 v3 v4 st = some res) : At p l e (rmK 1) s m args below meth c D G ad (MQI D G ad below args s res) 6 st [(0, .ref (ad 130)), (1, .long v1), (3, .int v3), (4, .int v4)] 65 [] := by
  obtain ⟨hx, hb, hml, hown, hts, hr, hlk, hK, had, hSt⟩ := id C
  intro H locs ls hl hP hS
  unfold fX11_steady_s65 at hf
  refine lv_aload_n hx hb dX11_steady_65 rfl (lv_at hl 0 rfl) ?_
  refine g_getR hx hb hts inlX11 hown hK hP 130 ct_130 rfl 56 (by decide) (hts _ wm_8_15) rfl dX11_steady_66 ?_
  refine lv_iload hx hb dX11_steady_69 (lv_at hl 3 rfl) ?_
  obtain ⟨g1, hf⟩ := gd hf
  refine g_lald hx hb hK hP 163 ct_163 g1 dX11_steady_71 ?_
  refine lv_ldc2 hx hb hown (hts _ wm_39_20) dX11_steady_72 ?_
  refine lv_ldc2 hx hb hown (hts _ wm_11_13) dX11_steady_75 ?_
  obtain ⟨q, hq, hf⟩ := bd hf
  refine gcS_i (k := 0) (As := [.long (st.2 163 v4.toNatClampNeg), .long (-99), .long 99]) (rest := []) hx hb hml hown hts hK hSt hP hS hl.1 (goodS wm_10_21 wm_10_22 wm_1_5 wm_10_23) okX11_in (Nat.le_of_ble_eq_true rfl) (Nat.le_of_ble_eq_true rfl) rfl rfl (Nat.le_of_ble_eq_true rfl) dX11_steady_78 (kX11_in l D G ad had n  (st.2 163 v4.toNatClampNeg) (-99) 99 st q hq) (fun H locs hP hS => ?_)
  exact wX11_steady_s81 C n K37 v1 v3 v4 q.1 q.2 res hK37 hf H locs ls (lv_sub hl [0, 1, 2, 3] rfl) hP hS
def fX11_steady_s43 (n : Nat) (K37 : Int64 → Int32 → Int32 → St → Option (Int32 × St))  (v1 : Int64) (v3 : Int32) (v4 : Int32) (st : St) : Option (Int32 × St) := if inb v4 5 = true then (fX11_steady_s65 n K37 v1 v3 v4 (setJ st 163 v4.toNatClampNeg (((v1 >>> ((8 * v4).toInt64 &&& 63)) &&& 255) - 100))) else none
set_option maxHeartbeats 4000000 in
set_option maxRecDepth 100000 in
theorem wX11_steady_s43 (C : Cx p s m args meth c cX11_steady 6 wsL_law RX11 (some .int) D G ad) (n : Nat) (K37 : Int64 → Int32 → Int32 → St → Option (Int32 × St))  (v1 : Int64) (v3 : Int32) (v4 : Int32)   (st : St) (res : (Int32 × St)) (hK37 : ∀ (v1 : Int64) (v3 : Int32) (v4 : Int32) (st : St), K37 v1 v3 v4 st = some res → At p l e (rmK 1) s m args below meth c D G ad (MQI D G ad below args s res) 6 st [(0, .ref (ad 130)), (1, .long v1), (3, .int v3), (4, .int v4)] 37 []) (hf : fX11_steady_s43 n K37  v1 v3 v4 st = some res) : At p l e (rmK 1) s m args below meth c D G ad (MQI D G ad below args s res) 6 st [(0, .ref (ad 130)), (1, .long v1), (3, .int v3), (4, .int v4)] 43 [] := by
  obtain ⟨hx, hb, hml, hown, hts, hr, hlk, hK, had, hSt⟩ := id C
  intro H locs ls hl hP hS
  unfold fX11_steady_s43 at hf
  refine lv_aload_n hx hb dX11_steady_43 rfl (lv_at hl 0 rfl) ?_
  refine g_getR hx hb hts inlX11 hown hK hP 130 ct_130 rfl 56 (by decide) (hts _ wm_8_15) rfl dX11_steady_44 ?_
  refine lv_iload hx hb dX11_steady_47 (lv_at hl 3 rfl) ?_
  refine lv_lload_n hx hb dX11_steady_49 rfl (lv_at hl 1 rfl) ?_
  refine lv_bipush (v := 8) hx hb dX11_steady_50 (by decide) ?_
  refine lv_iload hx hb dX11_steady_52 (lv_at hl 3 rfl) ?_
  refine lv_imul hx hb dX11_steady_54 ?_
  refine lv_lshr hx hb dX11_steady_55 rfl ?_
  refine lv_ldc2 hx hb hown (hts _ wm_25_12) dX11_steady_56 ?_
  refine lv_land hx hb dX11_steady_59 ?_
  refine lv_ldc2 hx hb hown (hts _ wm_39_19) dX11_steady_60 ?_
  refine lv_lsub hx hb dX11_steady_63 ?_
  obtain ⟨g1, hf⟩ := gd hf
  refine g_last hx hb hK had hP hS 163 ct_163 g1 dX11_steady_64 (fun H locs hP hS => ?_)
  exact wX11_steady_s65 C n K37 v1 v3 v4 (setJ st 163 v4.toNatClampNeg (((v1 >>> ((8 * v4).toInt64 &&& 63)) &&& 255) - 100)) res hK37 hf H locs ls (lv_sub hl [0, 1, 2, 3] rfl) hP hS
def fX11_steady_s37 (n : Nat) (K37 : Int64 → Int32 → Int32 → St → Option (Int32 × St))  (v1 : Int64) (v3 : Int32) (v4 : Int32) (st : St) : Option (Int32 × St) := if v3 < v4 then fX11_steady_s93 n v3 st else fX11_steady_s43 n K37 v1 v3 v4 st
set_option maxHeartbeats 4000000 in
set_option maxRecDepth 100000 in
theorem wX11_steady_s37 (C : Cx p s m args meth c cX11_steady 6 wsL_law RX11 (some .int) D G ad) (n : Nat) (K37 : Int64 → Int32 → Int32 → St → Option (Int32 × St))  (v1 : Int64) (v3 : Int32) (v4 : Int32)   (st : St) (res : (Int32 × St)) (hK37 : ∀ (v1 : Int64) (v3 : Int32) (v4 : Int32) (st : St), K37 v1 v3 v4 st = some res → At p l e (rmK 1) s m args below meth c D G ad (MQI D G ad below args s res) 6 st [(0, .ref (ad 130)), (1, .long v1), (3, .int v3), (4, .int v4)] 37 []) (hf : fX11_steady_s37 n K37  v1 v3 v4 st = some res) : At p l e (rmK 1) s m args below meth c D G ad (MQI D G ad below args s res) 6 st [(0, .ref (ad 130)), (1, .long v1), (3, .int v3), (4, .int v4)] 37 [] := by
  obtain ⟨hx, hb, hml, hown, hts, hr, hlk, hK, had, hSt⟩ := id C
  intro H locs ls hl hP hS
  unfold fX11_steady_s37 at hf
  refine lv_iload hx hb dX11_steady_37 (lv_at hl 3 rfl) ?_
  refine lv_iload_n hx hb dX11_steady_39 rfl (lv_at hl 2 rfl) ?_
  refine lv_icmp_gt (tgt := 93) hx hb dX11_steady_40 (by decide) (fun q => ?_) (fun q => ?_)
  · exact wX11_steady_s93 C n v3 st res (it hf q) H locs ls (lv_sub hl [0, 2] rfl) hP hS
  · exact wX11_steady_s43 C n K37 v1 v3 v4 st res hK37 (ie hf q) H locs ls (lv_sub hl [0, 1, 2, 3] rfl) hP hS
def fX11_steady_L37 (n : Nat)   : Nat → Int64 → Int32 → Int32 → St → Option (Int32 × St)
  | 0, _, _, _, _ => none
  | k + 1, v1, v3, v4, st => fX11_steady_s37 n (fX11_steady_L37 n k)  v1 v3 v4 st
theorem wX11_steady_L37 (C : Cx p s m args meth c cX11_steady 6 wsL_law RX11 (some .int) D G ad) (n : Nat)    (res : (Int32 × St))  : ∀ (k : Nat) (v1 : Int64) (v3 : Int32) (v4 : Int32)  (st : St), fX11_steady_L37 n k v1 v3 v4 st = some res → At p l e (rmK 1) s m args below meth c D G ad (MQI D G ad below args s res) 6 st [(0, .ref (ad 130)), (1, .long v1), (3, .int v3), (4, .int v4)] 37 [] := by
  intro k
  induction k with
  | zero => intro v1 v3 v4  st h; exact absurd h (by intro q; cases q)
  | succ k ih => intro v1 v3 v4  st h; exact wX11_steady_s37 C n (fX11_steady_L37 n k)  v1 v3 v4   st res ih h
def fX11_steady_s34 (n : Nat)   (v1 : Int64) (v3 : Int32) (st : St) : Option (Int32 × St) := fX11_steady_L37 n n v1 v3 0 st
set_option maxHeartbeats 4000000 in
set_option maxRecDepth 100000 in
theorem wX11_steady_s34 (C : Cx p s m args meth c cX11_steady 6 wsL_law RX11 (some .int) D G ad) (n : Nat)   (v1 : Int64) (v3 : Int32)   (st : St) (res : (Int32 × St))  (hf : fX11_steady_s34 n   v1 v3 st = some res) : At p l e (rmK 1) s m args below meth c D G ad (MQI D G ad below args s res) 6 st [(0, .ref (ad 130)), (1, .long v1), (3, .int v3)] 34 [] := by
  obtain ⟨hx, hb, hml, hown, hts, hr, hlk, hK, had, hSt⟩ := id C
  intro H locs ls hl hP hS
  unfold fX11_steady_s34 at hf
  refine lv_iconst (v := 0) hx hb dX11_steady_34 (by decide) ?_
  refine lv_istore (lv' := [(4, .int 0), (0, .ref (ad 130)), (1, .long v1), (3, .int v3)]) hx hb dX11_steady_35 hl (by decide) rfl (fun ls hl => ?_)
  exact wX11_steady_L37 C n res n v1 v3 0 st hf H locs ls (lv_sub hl [1, 2, 3, 0] rfl) hP hS
def fX11_steady_s18 (n : Nat)   (v1 : Int64) (v3 : Int32) (st : St) : Option (Int32 × St) := if (v1 >>> ((8 * (v3 + 1)).toInt64 &&& 63)) = 0 then fX11_steady_s34 n v1 v3 st else fX11_steady_s31 n st
set_option maxHeartbeats 4000000 in
set_option maxRecDepth 100000 in
theorem wX11_steady_s18 (C : Cx p s m args meth c cX11_steady 6 wsL_law RX11 (some .int) D G ad) (n : Nat)   (v1 : Int64) (v3 : Int32)   (st : St) (res : (Int32 × St))  (hf : fX11_steady_s18 n   v1 v3 st = some res) : At p l e (rmK 1) s m args below meth c D G ad (MQI D G ad below args s res) 6 st [(0, .ref (ad 130)), (1, .long v1), (3, .int v3)] 18 [] := by
  obtain ⟨hx, hb, hml, hown, hts, hr, hlk, hK, had, hSt⟩ := id C
  intro H locs ls hl hP hS
  unfold fX11_steady_s18 at hf
  refine lv_lload_n hx hb dX11_steady_18 rfl (lv_at hl 1 rfl) ?_
  refine lv_bipush (v := 8) hx hb dX11_steady_19 (by decide) ?_
  refine lv_iload_n hx hb dX11_steady_21 rfl (lv_at hl 2 rfl) ?_
  refine lv_iconst (v := 1) hx hb dX11_steady_22 (by decide) ?_
  refine lv_iadd hx hb dX11_steady_23 ?_
  refine lv_imul hx hb dX11_steady_24 ?_
  refine lv_lshr hx hb dX11_steady_25 rfl ?_
  refine lv_lconst (v := 0) hx hb dX11_steady_26 (by decide) ?_
  refine g_lcmp_eq (tgt := 34) hx hb dX11_steady_27 dX11_steady_28 (by decide) (fun q => ?_) (fun q => ?_)
  · exact wX11_steady_s34 C n v1 v3 st res (it hf q) H locs ls (lv_sub hl [0, 1, 2] rfl) hP hS
  · exact wX11_steady_s31 C n st res (ie hf q) H locs ls (lv_sub hl [] rfl) hP hS
def fX11_steady_s12 (n : Nat)   (v1 : Int64) (v3 : Int32) (st : St) : Option (Int32 × St) := if v1 < 0 then fX11_steady_s31 n st else fX11_steady_s18 n v1 v3 st
set_option maxHeartbeats 4000000 in
set_option maxRecDepth 100000 in
theorem wX11_steady_s12 (C : Cx p s m args meth c cX11_steady 6 wsL_law RX11 (some .int) D G ad) (n : Nat)   (v1 : Int64) (v3 : Int32)   (st : St) (res : (Int32 × St))  (hf : fX11_steady_s12 n   v1 v3 st = some res) : At p l e (rmK 1) s m args below meth c D G ad (MQI D G ad below args s res) 6 st [(0, .ref (ad 130)), (1, .long v1), (3, .int v3)] 12 [] := by
  obtain ⟨hx, hb, hml, hown, hts, hr, hlk, hK, had, hSt⟩ := id C
  intro H locs ls hl hP hS
  unfold fX11_steady_s12 at hf
  refine lv_lload_n hx hb dX11_steady_12 rfl (lv_at hl 1 rfl) ?_
  refine lv_lconst (v := 0) hx hb dX11_steady_13 (by decide) ?_
  refine g_lcmp_lt (tgt := 31) hx hb dX11_steady_14 dX11_steady_15 (by decide) (fun q => ?_) (fun q => ?_)
  · exact wX11_steady_s31 C n st res (it hf q) H locs ls (lv_sub hl [] rfl) hP hS
  · exact wX11_steady_s18 C n v1 v3 st res (ie hf q) H locs ls (lv_sub hl [0, 1, 2] rfl) hP hS
def fX11_steady_s9 (n : Nat)   (v1 : Int64) (v3 : Int32) (k0 : Int32) (st : St) : Option (Int32 × St) := if k0 = 0 then fX11_steady_s31 n st else fX11_steady_s12 n v1 v3 st
set_option maxHeartbeats 4000000 in
set_option maxRecDepth 100000 in
theorem wX11_steady_s9 (C : Cx p s m args meth c cX11_steady 6 wsL_law RX11 (some .int) D G ad) (n : Nat)   (v1 : Int64) (v3 : Int32) (k0 : Int32)   (st : St) (res : (Int32 × St))  (hf : fX11_steady_s9 n   v1 v3 k0 st = some res) : At p l e (rmK 1) s m args below meth c D G ad (MQI D G ad below args s res) 6 st [(0, .ref (ad 130)), (1, .long v1), (3, .int v3)] 9 [.int k0] := by
  obtain ⟨hx, hb, hml, hown, hts, hr, hlk, hK, had, hSt⟩ := id C
  intro H locs ls hl hP hS
  unfold fX11_steady_s9 at hf
  refine lv_if_eq (tgt := 31) hx hb dX11_steady_9 (by decide) (fun q => ?_) (fun q => ?_)
  · exact wX11_steady_s31 C n st res (it hf q) H locs ls (lv_sub hl [] rfl) hP hS
  · exact wX11_steady_s12 C n v1 v3 st res (ie hf q) H locs ls (lv_sub hl [0, 1, 2] rfl) hP hS
def fX11_steady_s0 (n : Nat)   (v1 : Int64) (v3 : Int32) (st : St) : Option (Int32 × St) := (fX11_in n v3.toInt64 1 4 st).bind (fun q => fX11_steady_s9 n v1 v3 q.1 q.2)
set_option maxHeartbeats 4000000 in
set_option maxRecDepth 100000 in
theorem wX11_steady_s0 (C : Cx p s m args meth c cX11_steady 6 wsL_law RX11 (some .int) D G ad) (n : Nat)   (v1 : Int64) (v3 : Int32)   (st : St) (res : (Int32 × St))  (hf : fX11_steady_s0 n   v1 v3 st = some res) : At p l e (rmK 1) s m args below meth c D G ad (MQI D G ad below args s res) 6 st [(0, .ref (ad 130)), (1, .long v1), (3, .int v3)] 0 [] := by
  obtain ⟨hx, hb, hml, hown, hts, hr, hlk, hK, had, hSt⟩ := id C
  intro H locs ls hl hP hS
  unfold fX11_steady_s0 at hf
  refine lv_iload_n hx hb dX11_steady_0 rfl (lv_at hl 2 rfl) ?_
  refine lv_i2l hx hb dX11_steady_1 rfl ?_
  refine lv_lconst (v := 1) hx hb dX11_steady_2 (by decide) ?_
  refine lv_ldc2 hx hb hown (hts _ wm_39_18) dX11_steady_3 ?_
  obtain ⟨q, hq, hf⟩ := bd hf
  refine gcS_i (k := 0) (As := [.long v3.toInt64, .long 1, .long 4]) (rest := []) hx hb hml hown hts hK hSt hP hS hl.1 (goodS wm_10_21 wm_10_22 wm_1_5 wm_10_23) okX11_in (Nat.le_of_ble_eq_true rfl) (Nat.le_of_ble_eq_true rfl) rfl rfl (Nat.le_of_ble_eq_true rfl) dX11_steady_6 (kX11_in l D G ad had n  v3.toInt64 1 4 st q hq) (fun H locs hP hS => ?_)
  exact wX11_steady_s9 C n v1 v3 q.1 q.2 res hf H locs ls (lv_sub hl [0, 1, 2] rfl) hP hS
def fX11_steady (n : Nat)  (a1 : Int64) (a3 : Int32) (st : St) : Option (Int32 × St) := fX11_steady_s0 n a1 a3 st
theorem okX11_steady : okY yX11_steady RX11 2 := by unfold okY; decide +kernel
end
set_option maxRecDepth 100000 in
theorem kX11_steady (l : Launch) (D : va_G) (G : G3) (ad : Nat → Nat) (had : Adr ad) (n : Nat)   (a1 : Int64) (a3 : Int32) (st : St) (res : (Int32 × St)) (hf : fX11_steady n  a1 a3 st = some res) {sz : Nat} : CtI l yX11_steady (wsU yX11_steady cX11_steady 6 (some .int)) (rmK 1) D G ad sz [.ref (ad 130), .long a1, .int a3] st res := by
  refine Met.ofW (cc := cX11_steady) (maxL := 6) (ret := (some .int)) (by decide) rfl ?_
  intro p e s m args below meth c s₁ B hml hv
  obtain ⟨rfl, hsz, hP, hK, hSt⟩ := hv
  have hts := atoms_spec (ws := wsU yX11_steady cX11_steady 6 (some .int)) B.pre
  have C : Cx p s m _ meth c cX11_steady 6 wsL_law RX11 (some .int) D G ad := ⟨B.exec, B.bytes, hml, findClass_of_methodNamed B.named, fun w h => hts w (List.mem_cons_of_mem _ h), B.returns, B.notSynchronized, hK, had, hSt⟩
  subst hsz
  have hl := lv_entry ([.ref (ad 130), .long a1, .int a3]) (n := 6) (Nat.le_of_ble_eq_true rfl)
  rw [lg_entry_eq]
  generalize (lg_sl ([.ref (ad 130), .long a1, .int a3]) ++ List.replicate (6 - (lg_sl ([.ref (ad 130), .long a1, .int a3])).length) Slot.unset).toArray = ls at hl ⊢
  exact wX11_steady_s0 C n  a1 a3   st res hf s.heap [] ls (lv_sub hl [0, 1, 2] rfl) hP va_S.rf
section
variable {p : Program} {l : Launch} {e : Env} {s : State} {m : MethodId} {args : Array Value} {below : List Frame} {meth : Method} {c : Code} {D : va_G} {G : G3} {ad : Nat → Nat}
def fX11_chances_s44 (n : Nat)    (st : St) : Option (Int32 × St) := some (0, st)
set_option maxHeartbeats 4000000 in
set_option maxRecDepth 100000 in
theorem wX11_chances_s44 (C : Cx p s m args meth c cX11_chances 4 wsL_law RX11 (some .int) D G ad) (n : Nat)      (st : St) (res : (Int32 × St))  (hf : fX11_chances_s44 n    st = some res) : At p l e (rmK 1) s m args below meth c D G ad (MQI D G ad below args s res) 4 st [] 44 [] := by
  obtain ⟨hx, hb, hml, hown, hts, hr, hlk, hK, had, hSt⟩ := id C
  intro H locs ls hl hP hS
  unfold fX11_chances_s44 at hf
  refine lv_iconst (v := 0) hx hb dX11_chances_44 (by decide) ?_
  exact g_iret hx hb hr hlk hP hS dX11_chances_45 hf
def fX11_chances_s33 (n : Nat) (K19 : Int32 → Int32 → St → Option (Int32 × St))  (v2 : Int32) (v3 : Int32) (st : St) : Option (Int32 × St) := K19 (v2 / 10) (v3 + (-1)) st
set_option maxHeartbeats 4000000 in
set_option maxRecDepth 100000 in
theorem wX11_chances_s33 (C : Cx p s m args meth c cX11_chances 4 wsL_law RX11 (some .int) D G ad) (n : Nat) (K19 : Int32 → Int32 → St → Option (Int32 × St))  (v2 : Int32) (v3 : Int32)   (st : St) (res : (Int32 × St)) (hK19 : ∀ (v2 : Int32) (v3 : Int32) (st : St), K19 v2 v3 st = some res → At p l e (rmK 1) s m args below meth c D G ad (MQI D G ad below args s res) 4 st [(0, .ref (ad 130)), (2, .int v2), (3, .int v3)] 19 []) (hf : fX11_chances_s33 n K19  v2 v3 st = some res) : At p l e (rmK 1) s m args below meth c D G ad (MQI D G ad below args s res) 4 st [(0, .ref (ad 130)), (2, .int v2), (3, .int v3)] 33 [] := by
  obtain ⟨hx, hb, hml, hown, hts, hr, hlk, hK, had, hSt⟩ := id C
  intro H locs ls hl hP hS
  unfold fX11_chances_s33 at hf
  refine lv_iload_n hx hb dX11_chances_33 rfl (lv_at hl 1 rfl) ?_
  refine lv_bipush (v := 10) hx hb dX11_chances_34 (by decide) ?_
  refine lv_idiv hx hb dX11_chances_36 (by decide) ?_
  refine lv_istore_n (lv' := [(2, .int (v2 / 10)), (0, .ref (ad 130)), (3, .int v3)]) hx hb dX11_chances_37 rfl hl (by decide) rfl (fun ls hl => ?_)
  refine lv_iinc (v := v3 + (-1)) (lv' := [(3, .int (v3 + (-1))), (2, .int (v2 / 10)), (0, .ref (ad 130))]) hx hb dX11_chances_38 hl (k := 2) rfl rfl (by decide) rfl (fun ls hl => ?_)
  refine lv_goto (tgt := 19) hx hb dX11_chances_41 (by decide) ?_
  exact hK19 (v2 / 10) (v3 + (-1))  st hf H locs ls (lv_sub hl [2, 1, 0] rfl) hP hS
def fX11_chances_s23 (n : Nat) (K19 : Int32 → Int32 → St → Option (Int32 × St))  (v2 : Int32) (v3 : Int32) (st : St) : Option (Int32 × St) := if inb v3 5 = true then (fX11_chances_s33 n K19 v2 v3 (setI st 165 v3.toNatClampNeg (v2 - v2 / 10 * 10))) else none
set_option maxHeartbeats 4000000 in
set_option maxRecDepth 100000 in
theorem wX11_chances_s23 (C : Cx p s m args meth c cX11_chances 4 wsL_law RX11 (some .int) D G ad) (n : Nat) (K19 : Int32 → Int32 → St → Option (Int32 × St))  (v2 : Int32) (v3 : Int32)   (st : St) (res : (Int32 × St)) (hK19 : ∀ (v2 : Int32) (v3 : Int32) (st : St), K19 v2 v3 st = some res → At p l e (rmK 1) s m args below meth c D G ad (MQI D G ad below args s res) 4 st [(0, .ref (ad 130)), (2, .int v2), (3, .int v3)] 19 []) (hf : fX11_chances_s23 n K19  v2 v3 st = some res) : At p l e (rmK 1) s m args below meth c D G ad (MQI D G ad below args s res) 4 st [(0, .ref (ad 130)), (2, .int v2), (3, .int v3)] 23 [] := by
  obtain ⟨hx, hb, hml, hown, hts, hr, hlk, hK, had, hSt⟩ := id C
  intro H locs ls hl hP hS
  unfold fX11_chances_s23 at hf
  refine lv_aload_n hx hb dX11_chances_23 rfl (lv_at hl 0 rfl) ?_
  refine g_getR hx hb hts inlX11 hown hK hP 130 ct_130 rfl 58 (by decide) (hts _ wm_8_17) rfl dX11_chances_24 ?_
  refine lv_iload_n hx hb dX11_chances_27 rfl (lv_at hl 2 rfl) ?_
  refine lv_iload_n hx hb dX11_chances_28 rfl (lv_at hl 1 rfl) ?_
  refine lv_bipush (v := 10) hx hb dX11_chances_29 (by decide) ?_
  refine lv_irem hx hb dX11_chances_31 (by decide) ?_
  obtain ⟨g1, hf⟩ := gd hf
  refine g_iast hx hb hK had hP hS 165 ct_165 g1 dX11_chances_32 (fun H locs hP hS => ?_)
  exact wX11_chances_s33 C n K19 v2 v3 (setI st 165 v3.toNatClampNeg (v2 - v2 / 10 * 10)) res hK19 hf H locs ls (lv_sub hl [0, 1, 2] rfl) hP hS
def fX11_chances_s19 (n : Nat) (K19 : Int32 → Int32 → St → Option (Int32 × St))  (v2 : Int32) (v3 : Int32) (st : St) : Option (Int32 × St) := if v3 < 0 then fX11_chances_s44 n st else fX11_chances_s23 n K19 v2 v3 st
set_option maxHeartbeats 4000000 in
set_option maxRecDepth 100000 in
theorem wX11_chances_s19 (C : Cx p s m args meth c cX11_chances 4 wsL_law RX11 (some .int) D G ad) (n : Nat) (K19 : Int32 → Int32 → St → Option (Int32 × St))  (v2 : Int32) (v3 : Int32)   (st : St) (res : (Int32 × St)) (hK19 : ∀ (v2 : Int32) (v3 : Int32) (st : St), K19 v2 v3 st = some res → At p l e (rmK 1) s m args below meth c D G ad (MQI D G ad below args s res) 4 st [(0, .ref (ad 130)), (2, .int v2), (3, .int v3)] 19 []) (hf : fX11_chances_s19 n K19  v2 v3 st = some res) : At p l e (rmK 1) s m args below meth c D G ad (MQI D G ad below args s res) 4 st [(0, .ref (ad 130)), (2, .int v2), (3, .int v3)] 19 [] := by
  obtain ⟨hx, hb, hml, hown, hts, hr, hlk, hK, had, hSt⟩ := id C
  intro H locs ls hl hP hS
  unfold fX11_chances_s19 at hf
  refine lv_iload_n hx hb dX11_chances_19 rfl (lv_at hl 2 rfl) ?_
  refine lv_if_lt (tgt := 44) hx hb dX11_chances_20 (by decide) (fun q => ?_) (fun q => ?_)
  · exact wX11_chances_s44 C n st res (it hf q) H locs ls (lv_sub hl [] rfl) hP hS
  · exact wX11_chances_s23 C n K19 v2 v3 st res hK19 (ie hf q) H locs ls (lv_sub hl [0, 1, 2] rfl) hP hS
def fX11_chances_L19 (n : Nat)   : Nat → Int32 → Int32 → St → Option (Int32 × St)
  | 0, _, _, _ => none
  | k + 1, v2, v3, st => fX11_chances_s19 n (fX11_chances_L19 n k)  v2 v3 st
theorem wX11_chances_L19 (C : Cx p s m args meth c cX11_chances 4 wsL_law RX11 (some .int) D G ad) (n : Nat)    (res : (Int32 × St))  : ∀ (k : Nat) (v2 : Int32) (v3 : Int32)  (st : St), fX11_chances_L19 n k v2 v3 st = some res → At p l e (rmK 1) s m args below meth c D G ad (MQI D G ad below args s res) 4 st [(0, .ref (ad 130)), (2, .int v2), (3, .int v3)] 19 [] := by
  intro k
  induction k with
  | zero => intro v2 v3  st h; exact absurd h (by intro q; cases q)
  | succ k ih => intro v2 v3  st h; exact wX11_chances_s19 C n (fX11_chances_L19 n k)  v2 v3   st res ih h
def fX11_chances_s15 (n : Nat)   (v1 : Int32) (st : St) : Option (Int32 × St) := fX11_chances_L19 n n v1 4 st
set_option maxHeartbeats 4000000 in
set_option maxRecDepth 100000 in
theorem wX11_chances_s15 (C : Cx p s m args meth c cX11_chances 4 wsL_law RX11 (some .int) D G ad) (n : Nat)   (v1 : Int32)   (st : St) (res : (Int32 × St))  (hf : fX11_chances_s15 n   v1 st = some res) : At p l e (rmK 1) s m args below meth c D G ad (MQI D G ad below args s res) 4 st [(0, .ref (ad 130)), (1, .int v1)] 15 [] := by
  obtain ⟨hx, hb, hml, hown, hts, hr, hlk, hK, had, hSt⟩ := id C
  intro H locs ls hl hP hS
  unfold fX11_chances_s15 at hf
  refine lv_iload_n hx hb dX11_chances_15 rfl (lv_at hl 1 rfl) ?_
  refine lv_istore_n (lv' := [(2, .int v1), (0, .ref (ad 130)), (1, .int v1)]) hx hb dX11_chances_16 rfl hl (by decide) rfl (fun ls hl => ?_)
  refine lv_iconst (v := 4) hx hb dX11_chances_17 (by decide) ?_
  refine lv_istore_n (lv' := [(3, .int 4), (2, .int v1), (0, .ref (ad 130)), (1, .int v1)]) hx hb dX11_chances_18 rfl hl (by decide) rfl (fun ls hl => ?_)
  exact wX11_chances_L19 C n res n v1 4 st hf H locs ls (lv_sub hl [2, 1, 0] rfl) hP hS
def fX11_chances_s12 (n : Nat)    (st : St) : Option (Int32 × St) := some ((-2), st)
set_option maxHeartbeats 4000000 in
set_option maxRecDepth 100000 in
theorem wX11_chances_s12 (C : Cx p s m args meth c cX11_chances 4 wsL_law RX11 (some .int) D G ad) (n : Nat)      (st : St) (res : (Int32 × St))  (hf : fX11_chances_s12 n    st = some res) : At p l e (rmK 1) s m args below meth c D G ad (MQI D G ad below args s res) 4 st [] 12 [] := by
  obtain ⟨hx, hb, hml, hown, hts, hr, hlk, hK, had, hSt⟩ := id C
  intro H locs ls hl hP hS
  unfold fX11_chances_s12 at hf
  refine lv_bipush (v := (-2)) hx hb dX11_chances_12 (by decide) ?_
  exact g_iret hx hb hr hlk hP hS dX11_chances_14 hf
def fX11_chances_s9 (n : Nat)   (v1 : Int32) (k0 : Int32) (st : St) : Option (Int32 × St) := if k0 = 0 then fX11_chances_s12 n st else fX11_chances_s15 n v1 st
set_option maxHeartbeats 4000000 in
set_option maxRecDepth 100000 in
theorem wX11_chances_s9 (C : Cx p s m args meth c cX11_chances 4 wsL_law RX11 (some .int) D G ad) (n : Nat)   (v1 : Int32) (k0 : Int32)   (st : St) (res : (Int32 × St))  (hf : fX11_chances_s9 n   v1 k0 st = some res) : At p l e (rmK 1) s m args below meth c D G ad (MQI D G ad below args s res) 4 st [(0, .ref (ad 130)), (1, .int v1)] 9 [.int k0] := by
  obtain ⟨hx, hb, hml, hown, hts, hr, hlk, hK, had, hSt⟩ := id C
  intro H locs ls hl hP hS
  unfold fX11_chances_s9 at hf
  refine lv_if_ne (tgt := 15) hx hb dX11_chances_9 (by decide) (fun q => ?_) (fun q => ?_)
  · exact wX11_chances_s15 C n v1 st res (ie hf q) H locs ls (lv_sub hl [0, 1] rfl) hP hS
  · exact wX11_chances_s12 C n st res (it hf q) H locs ls (lv_sub hl [] rfl) hP hS
def fX11_chances_s0 (n : Nat)   (v1 : Int32) (st : St) : Option (Int32 × St) := (fX11_in n v1.toInt64 1 99999 st).bind (fun q => fX11_chances_s9 n v1 q.1 q.2)
set_option maxHeartbeats 4000000 in
set_option maxRecDepth 100000 in
theorem wX11_chances_s0 (C : Cx p s m args meth c cX11_chances 4 wsL_law RX11 (some .int) D G ad) (n : Nat)   (v1 : Int32)   (st : St) (res : (Int32 × St))  (hf : fX11_chances_s0 n   v1 st = some res) : At p l e (rmK 1) s m args below meth c D G ad (MQI D G ad below args s res) 4 st [(0, .ref (ad 130)), (1, .int v1)] 0 [] := by
  obtain ⟨hx, hb, hml, hown, hts, hr, hlk, hK, had, hSt⟩ := id C
  intro H locs ls hl hP hS
  unfold fX11_chances_s0 at hf
  refine lv_iload_n hx hb dX11_chances_0 rfl (lv_at hl 1 rfl) ?_
  refine lv_i2l hx hb dX11_chances_1 rfl ?_
  refine lv_lconst (v := 1) hx hb dX11_chances_2 (by decide) ?_
  refine lv_ldc2 hx hb hown (hts _ wm_40_10) dX11_chances_3 ?_
  obtain ⟨q, hq, hf⟩ := bd hf
  refine gcS_i (k := 0) (As := [.long v1.toInt64, .long 1, .long 99999]) (rest := []) hx hb hml hown hts hK hSt hP hS hl.1 (goodS wm_10_21 wm_10_22 wm_1_5 wm_10_23) okX11_in (Nat.le_of_ble_eq_true rfl) (Nat.le_of_ble_eq_true rfl) rfl rfl (Nat.le_of_ble_eq_true rfl) dX11_chances_6 (kX11_in l D G ad had n  v1.toInt64 1 99999 st q hq) (fun H locs hP hS => ?_)
  exact wX11_chances_s9 C n v1 q.1 q.2 res hf H locs ls (lv_sub hl [0, 1] rfl) hP hS
def fX11_chances (n : Nat)  (a1 : Int32) (st : St) : Option (Int32 × St) := fX11_chances_s0 n a1 st
theorem okX11_chances : okY yX11_chances RX11 1 := by unfold okY; decide +kernel
end
set_option maxRecDepth 100000 in
theorem kX11_chances (l : Launch) (D : va_G) (G : G3) (ad : Nat → Nat) (had : Adr ad) (n : Nat)   (a1 : Int32) (st : St) (res : (Int32 × St)) (hf : fX11_chances n  a1 st = some res) {sz : Nat} : CtI l yX11_chances (wsU yX11_chances cX11_chances 4 (some .int)) (rmK 1) D G ad sz [.ref (ad 130), .int a1] st res := by
  refine Met.ofW (cc := cX11_chances) (maxL := 4) (ret := (some .int)) (by decide) rfl ?_
  intro p e s m args below meth c s₁ B hml hv
  obtain ⟨rfl, hsz, hP, hK, hSt⟩ := hv
  have hts := atoms_spec (ws := wsU yX11_chances cX11_chances 4 (some .int)) B.pre
  have C : Cx p s m _ meth c cX11_chances 4 wsL_law RX11 (some .int) D G ad := ⟨B.exec, B.bytes, hml, findClass_of_methodNamed B.named, fun w h => hts w (List.mem_cons_of_mem _ h), B.returns, B.notSynchronized, hK, had, hSt⟩
  subst hsz
  have hl := lv_entry ([.ref (ad 130), .int a1]) (n := 4) (Nat.le_of_ble_eq_true rfl)
  rw [lg_entry_eq]
  generalize (lg_sl ([.ref (ad 130), .int a1]) ++ List.replicate (4 - (lg_sl ([.ref (ad 130), .int a1])).length) Slot.unset).toArray = ls at hl ⊢
  exact wX11_chances_s0 C n  a1   st res hf s.heap [] ls (lv_sub hl [0, 1] rfl) hP va_S.rf
section
variable {p : Program} {l : Launch} {e : Env} {s : State} {m : MethodId} {args : Array Value} {below : List Frame} {meth : Method} {c : Code} {D : va_G} {G : G3} {ad : Nat → Nat}
def fX11_findChances_s162 (n : Nat)    (st : St) : Option (Unit × St) := some ((), st)
set_option maxHeartbeats 4000000 in
set_option maxRecDepth 100000 in
theorem wX11_findChances_s162 (C : Cx p s m args meth c cX11_findChances 6 wsL_law RX11 none D G ad) (n : Nat)      (st : St) (res : (Unit × St))  (hf : fX11_findChances_s162 n    st = some res) : At p l e (rmK 0) s m args below meth c D G ad (MQV D G ad below args s res) 6 st [] 162 [] := by
  obtain ⟨hx, hb, hml, hown, hts, hr, hlk, hK, had, hSt⟩ := id C
  intro H locs ls hl hP hS
  unfold fX11_findChances_s162 at hf
  exact g_vret hx hb hr hlk hP hS dX11_findChances_162 hf
def fX11_findChances_s156 (n : Nat) (K36 : Int32 → Int32 → Int32 → St → Option (Unit × St))  (v1 : Int32) (v2 : Int32) (v3 : Int32) (st : St) : Option (Unit × St) := K36 v1 v2 (v3 + 1) st
set_option maxHeartbeats 4000000 in
set_option maxRecDepth 100000 in
theorem wX11_findChances_s156 (C : Cx p s m args meth c cX11_findChances 6 wsL_law RX11 none D G ad) (n : Nat) (K36 : Int32 → Int32 → Int32 → St → Option (Unit × St))  (v1 : Int32) (v2 : Int32) (v3 : Int32)   (st : St) (res : (Unit × St)) (hK36 : ∀ (v1 : Int32) (v2 : Int32) (v3 : Int32) (st : St), K36 v1 v2 v3 st = some res → At p l e (rmK 0) s m args below meth c D G ad (MQV D G ad below args s res) 6 st [(0, .ref (ad 130)), (1, .int v1), (2, .int v2), (3, .int v3)] 36 []) (hf : fX11_findChances_s156 n K36  v1 v2 v3 st = some res) : At p l e (rmK 0) s m args below meth c D G ad (MQV D G ad below args s res) 6 st [(0, .ref (ad 130)), (1, .int v1), (2, .int v2), (3, .int v3)] 156 [] := by
  obtain ⟨hx, hb, hml, hown, hts, hr, hlk, hK, had, hSt⟩ := id C
  intro H locs ls hl hP hS
  unfold fX11_findChances_s156 at hf
  refine lv_iinc (v := v3 + 1) (lv' := [(3, .int (v3 + 1)), (0, .ref (ad 130)), (1, .int v1), (2, .int v2)]) hx hb dX11_findChances_156 hl (k := 3) rfl rfl (by decide) rfl (fun ls hl => ?_)
  refine lv_goto (tgt := 36) hx hb dX11_findChances_159 (by decide) ?_
  exact hK36 v1 v2 (v3 + 1)  st hf H locs ls (lv_sub hl [1, 2, 3, 0] rfl) hP hS
def fX11_findChances_s150 (n : Nat) (K36 : Int32 → Int32 → Int32 → St → Option (Unit × St)) (K124 : Int32 → Int32 → Int32 → Int32 → St → Option (Unit × St))  (v1 : Int32) (v2 : Int32) (v3 : Int32) (v4 : Int32) (st : St) : Option (Unit × St) := K124 v1 v2 v3 (v4 + 1) st
set_option maxHeartbeats 4000000 in
set_option maxRecDepth 100000 in
theorem wX11_findChances_s150 (C : Cx p s m args meth c cX11_findChances 6 wsL_law RX11 none D G ad) (n : Nat) (K36 : Int32 → Int32 → Int32 → St → Option (Unit × St)) (K124 : Int32 → Int32 → Int32 → Int32 → St → Option (Unit × St))  (v1 : Int32) (v2 : Int32) (v3 : Int32) (v4 : Int32)   (st : St) (res : (Unit × St)) (hK36 : ∀ (v1 : Int32) (v2 : Int32) (v3 : Int32) (st : St), K36 v1 v2 v3 st = some res → At p l e (rmK 0) s m args below meth c D G ad (MQV D G ad below args s res) 6 st [(0, .ref (ad 130)), (1, .int v1), (2, .int v2), (3, .int v3)] 36 []) (hK124 : ∀ (v1 : Int32) (v2 : Int32) (v3 : Int32) (v4 : Int32) (st : St), K124 v1 v2 v3 v4 st = some res → At p l e (rmK 0) s m args below meth c D G ad (MQV D G ad below args s res) 6 st [(0, .ref (ad 130)), (1, .int v1), (2, .int v2), (3, .int v3), (4, .int v4)] 124 []) (hf : fX11_findChances_s150 n K36 K124  v1 v2 v3 v4 st = some res) : At p l e (rmK 0) s m args below meth c D G ad (MQV D G ad below args s res) 6 st [(0, .ref (ad 130)), (1, .int v1), (2, .int v2), (3, .int v3), (4, .int v4)] 150 [] := by
  obtain ⟨hx, hb, hml, hown, hts, hr, hlk, hK, had, hSt⟩ := id C
  intro H locs ls hl hP hS
  unfold fX11_findChances_s150 at hf
  refine lv_iinc (v := v4 + 1) (lv' := [(4, .int (v4 + 1)), (0, .ref (ad 130)), (1, .int v1), (2, .int v2), (3, .int v3)]) hx hb dX11_findChances_150 hl (k := 4) rfl rfl (by decide) rfl (fun ls hl => ?_)
  refine lv_goto (tgt := 124) hx hb dX11_findChances_153 (by decide) ?_
  exact hK124 v1 v2 v3 (v4 + 1)  st hf H locs ls (lv_sub hl [1, 2, 3, 4, 0] rfl) hP hS
def fX11_findChances_s131 (n : Nat) (K36 : Int32 → Int32 → Int32 → St → Option (Unit × St)) (K124 : Int32 → Int32 → Int32 → Int32 → St → Option (Unit × St))  (v1 : Int32) (v2 : Int32) (v3 : Int32) (v4 : Int32) (st : St) : Option (Unit × St) := if inb v4 25 = true then (if inb ((25 * v1) + v4) 50 = true then (fX11_findChances_s150 n K36 K124 v1 v2 v3 v4 (setJ st 166 ((25 * v1) + v4).toNatClampNeg (st.2 167 v4.toNatClampNeg))) else none) else none
set_option maxHeartbeats 4000000 in
set_option maxRecDepth 100000 in
theorem wX11_findChances_s131 (C : Cx p s m args meth c cX11_findChances 6 wsL_law RX11 none D G ad) (n : Nat) (K36 : Int32 → Int32 → Int32 → St → Option (Unit × St)) (K124 : Int32 → Int32 → Int32 → Int32 → St → Option (Unit × St))  (v1 : Int32) (v2 : Int32) (v3 : Int32) (v4 : Int32)   (st : St) (res : (Unit × St)) (hK36 : ∀ (v1 : Int32) (v2 : Int32) (v3 : Int32) (st : St), K36 v1 v2 v3 st = some res → At p l e (rmK 0) s m args below meth c D G ad (MQV D G ad below args s res) 6 st [(0, .ref (ad 130)), (1, .int v1), (2, .int v2), (3, .int v3)] 36 []) (hK124 : ∀ (v1 : Int32) (v2 : Int32) (v3 : Int32) (v4 : Int32) (st : St), K124 v1 v2 v3 v4 st = some res → At p l e (rmK 0) s m args below meth c D G ad (MQV D G ad below args s res) 6 st [(0, .ref (ad 130)), (1, .int v1), (2, .int v2), (3, .int v3), (4, .int v4)] 124 []) (hf : fX11_findChances_s131 n K36 K124  v1 v2 v3 v4 st = some res) : At p l e (rmK 0) s m args below meth c D G ad (MQV D G ad below args s res) 6 st [(0, .ref (ad 130)), (1, .int v1), (2, .int v2), (3, .int v3), (4, .int v4)] 131 [] := by
  obtain ⟨hx, hb, hml, hown, hts, hr, hlk, hK, had, hSt⟩ := id C
  intro H locs ls hl hP hS
  unfold fX11_findChances_s131 at hf
  refine lv_aload_n hx hb dX11_findChances_131 rfl (lv_at hl 0 rfl) ?_
  refine g_getR hx hb hts inlX11 hown hK hP 130 ct_130 rfl 59 (by decide) (hts _ wm_8_18) rfl dX11_findChances_132 ?_
  refine lv_bipush (v := 25) hx hb dX11_findChances_135 (by decide) ?_
  refine lv_iload_n hx hb dX11_findChances_137 rfl (lv_at hl 1 rfl) ?_
  refine lv_imul hx hb dX11_findChances_138 ?_
  refine lv_iload hx hb dX11_findChances_139 (lv_at hl 4 rfl) ?_
  refine lv_iadd hx hb dX11_findChances_141 ?_
  refine lv_aload_n hx hb dX11_findChances_142 rfl (lv_at hl 0 rfl) ?_
  refine g_getR hx hb hts inlX11 hown hK hP 130 ct_130 rfl 60 (by decide) (hts _ wm_8_19) rfl dX11_findChances_143 ?_
  refine lv_iload hx hb dX11_findChances_146 (lv_at hl 4 rfl) ?_
  obtain ⟨g1, hf⟩ := gd hf
  refine g_lald hx hb hK hP 167 ct_167 g1 dX11_findChances_148 ?_
  obtain ⟨g2, hf⟩ := gd hf
  refine g_last hx hb hK had hP hS 166 ct_166 g2 dX11_findChances_149 (fun H locs hP hS => ?_)
  exact wX11_findChances_s150 C n K36 K124 v1 v2 v3 v4 (setJ st 166 ((25 * v1) + v4).toNatClampNeg (st.2 167 v4.toNatClampNeg)) res hK36 hK124 hf H locs ls (lv_sub hl [0, 1, 2, 3, 4] rfl) hP hS
def fX11_findChances_s124 (n : Nat) (K36 : Int32 → Int32 → Int32 → St → Option (Unit × St)) (K124 : Int32 → Int32 → Int32 → Int32 → St → Option (Unit × St))  (v1 : Int32) (v2 : Int32) (v3 : Int32) (v4 : Int32) (st : St) : Option (Unit × St) := if 25 ≤ v4 then fX11_findChances_s156 n K36 v1 v2 v3 st else fX11_findChances_s131 n K36 K124 v1 v2 v3 v4 st
set_option maxHeartbeats 4000000 in
set_option maxRecDepth 100000 in
theorem wX11_findChances_s124 (C : Cx p s m args meth c cX11_findChances 6 wsL_law RX11 none D G ad) (n : Nat) (K36 : Int32 → Int32 → Int32 → St → Option (Unit × St)) (K124 : Int32 → Int32 → Int32 → Int32 → St → Option (Unit × St))  (v1 : Int32) (v2 : Int32) (v3 : Int32) (v4 : Int32)   (st : St) (res : (Unit × St)) (hK36 : ∀ (v1 : Int32) (v2 : Int32) (v3 : Int32) (st : St), K36 v1 v2 v3 st = some res → At p l e (rmK 0) s m args below meth c D G ad (MQV D G ad below args s res) 6 st [(0, .ref (ad 130)), (1, .int v1), (2, .int v2), (3, .int v3)] 36 []) (hK124 : ∀ (v1 : Int32) (v2 : Int32) (v3 : Int32) (v4 : Int32) (st : St), K124 v1 v2 v3 v4 st = some res → At p l e (rmK 0) s m args below meth c D G ad (MQV D G ad below args s res) 6 st [(0, .ref (ad 130)), (1, .int v1), (2, .int v2), (3, .int v3), (4, .int v4)] 124 []) (hf : fX11_findChances_s124 n K36 K124  v1 v2 v3 v4 st = some res) : At p l e (rmK 0) s m args below meth c D G ad (MQV D G ad below args s res) 6 st [(0, .ref (ad 130)), (1, .int v1), (2, .int v2), (3, .int v3), (4, .int v4)] 124 [] := by
  obtain ⟨hx, hb, hml, hown, hts, hr, hlk, hK, had, hSt⟩ := id C
  intro H locs ls hl hP hS
  unfold fX11_findChances_s124 at hf
  refine lv_iload hx hb dX11_findChances_124 (lv_at hl 4 rfl) ?_
  refine lv_bipush (v := 25) hx hb dX11_findChances_126 (by decide) ?_
  refine lv_icmp_ge (tgt := 156) hx hb dX11_findChances_128 (by decide) (fun q => ?_) (fun q => ?_)
  · exact wX11_findChances_s156 C n K36 v1 v2 v3 st res hK36 (it hf q) H locs ls (lv_sub hl [0, 1, 2, 3] rfl) hP hS
  · exact wX11_findChances_s131 C n K36 K124 v1 v2 v3 v4 st res hK36 hK124 (ie hf q) H locs ls (lv_sub hl [0, 1, 2, 3, 4] rfl) hP hS
def fX11_findChances_L124 (n : Nat) (K36 : Int32 → Int32 → Int32 → St → Option (Unit × St))  : Nat → Int32 → Int32 → Int32 → Int32 → St → Option (Unit × St)
  | 0, _, _, _, _, _ => none
  | k + 1, v1, v2, v3, v4, st => fX11_findChances_s124 n K36 (fX11_findChances_L124 n K36 k)  v1 v2 v3 v4 st
theorem wX11_findChances_L124 (C : Cx p s m args meth c cX11_findChances 6 wsL_law RX11 none D G ad) (n : Nat) (K36 : Int32 → Int32 → Int32 → St → Option (Unit × St))   (res : (Unit × St)) (hK36 : ∀ (v1 : Int32) (v2 : Int32) (v3 : Int32) (st : St), K36 v1 v2 v3 st = some res → At p l e (rmK 0) s m args below meth c D G ad (MQV D G ad below args s res) 6 st [(0, .ref (ad 130)), (1, .int v1), (2, .int v2), (3, .int v3)] 36 []) : ∀ (k : Nat) (v1 : Int32) (v2 : Int32) (v3 : Int32) (v4 : Int32)  (st : St), fX11_findChances_L124 n K36 k v1 v2 v3 v4 st = some res → At p l e (rmK 0) s m args below meth c D G ad (MQV D G ad below args s res) 6 st [(0, .ref (ad 130)), (1, .int v1), (2, .int v2), (3, .int v3), (4, .int v4)] 124 [] := by
  intro k
  induction k with
  | zero => intro v1 v2 v3 v4  st h; exact absurd h (by intro q; cases q)
  | succ k ih => intro v1 v2 v3 v4  st h; exact wX11_findChances_s124 C n K36 (fX11_findChances_L124 n K36 k)  v1 v2 v3 v4   st res hK36 ih h
def fX11_findChances_s121 (n : Nat) (K36 : Int32 → Int32 → Int32 → St → Option (Unit × St))  (v1 : Int32) (v2 : Int32) (v3 : Int32) (st : St) : Option (Unit × St) := fX11_findChances_L124 n K36 n v1 v2 v3 0 st
set_option maxHeartbeats 4000000 in
set_option maxRecDepth 100000 in
theorem wX11_findChances_s121 (C : Cx p s m args meth c cX11_findChances 6 wsL_law RX11 none D G ad) (n : Nat) (K36 : Int32 → Int32 → Int32 → St → Option (Unit × St))  (v1 : Int32) (v2 : Int32) (v3 : Int32)   (st : St) (res : (Unit × St)) (hK36 : ∀ (v1 : Int32) (v2 : Int32) (v3 : Int32) (st : St), K36 v1 v2 v3 st = some res → At p l e (rmK 0) s m args below meth c D G ad (MQV D G ad below args s res) 6 st [(0, .ref (ad 130)), (1, .int v1), (2, .int v2), (3, .int v3)] 36 []) (hf : fX11_findChances_s121 n K36  v1 v2 v3 st = some res) : At p l e (rmK 0) s m args below meth c D G ad (MQV D G ad below args s res) 6 st [(0, .ref (ad 130)), (1, .int v1), (2, .int v2), (3, .int v3)] 121 [] := by
  obtain ⟨hx, hb, hml, hown, hts, hr, hlk, hK, had, hSt⟩ := id C
  intro H locs ls hl hP hS
  unfold fX11_findChances_s121 at hf
  refine lv_iconst (v := 0) hx hb dX11_findChances_121 (by decide) ?_
  refine lv_istore (lv' := [(4, .int 0), (0, .ref (ad 130)), (1, .int v1), (2, .int v2), (3, .int v3)]) hx hb dX11_findChances_122 hl (by decide) rfl (fun ls hl => ?_)
  exact wX11_findChances_L124 C n K36 res hK36 n v1 v2 v3 0 st hf H locs ls (lv_sub hl [1, 2, 3, 4, 0] rfl) hP hS
def fX11_findChances_s115 (n : Nat) (K36 : Int32 → Int32 → Int32 → St → Option (Unit × St)) (K44 : Int32 → Int32 → Int32 → Int32 → St → Option (Unit × St))  (v1 : Int32) (v2 : Int32) (v3 : Int32) (v4 : Int32) (st : St) : Option (Unit × St) := K44 v1 v2 v3 (v4 + 1) st
set_option maxHeartbeats 4000000 in
set_option maxRecDepth 100000 in
theorem wX11_findChances_s115 (C : Cx p s m args meth c cX11_findChances 6 wsL_law RX11 none D G ad) (n : Nat) (K36 : Int32 → Int32 → Int32 → St → Option (Unit × St)) (K44 : Int32 → Int32 → Int32 → Int32 → St → Option (Unit × St))  (v1 : Int32) (v2 : Int32) (v3 : Int32) (v4 : Int32)   (st : St) (res : (Unit × St)) (hK36 : ∀ (v1 : Int32) (v2 : Int32) (v3 : Int32) (st : St), K36 v1 v2 v3 st = some res → At p l e (rmK 0) s m args below meth c D G ad (MQV D G ad below args s res) 6 st [(0, .ref (ad 130)), (1, .int v1), (2, .int v2), (3, .int v3)] 36 []) (hK44 : ∀ (v1 : Int32) (v2 : Int32) (v3 : Int32) (v4 : Int32) (st : St), K44 v1 v2 v3 v4 st = some res → At p l e (rmK 0) s m args below meth c D G ad (MQV D G ad below args s res) 6 st [(0, .ref (ad 130)), (1, .int v1), (2, .int v2), (3, .int v3), (4, .int v4)] 44 []) (hf : fX11_findChances_s115 n K36 K44  v1 v2 v3 v4 st = some res) : At p l e (rmK 0) s m args below meth c D G ad (MQV D G ad below args s res) 6 st [(0, .ref (ad 130)), (1, .int v1), (2, .int v2), (3, .int v3), (4, .int v4)] 115 [] := by
  obtain ⟨hx, hb, hml, hown, hts, hr, hlk, hK, had, hSt⟩ := id C
  intro H locs ls hl hP hS
  unfold fX11_findChances_s115 at hf
  refine lv_iinc (v := v4 + 1) (lv' := [(4, .int (v4 + 1)), (0, .ref (ad 130)), (1, .int v1), (2, .int v2), (3, .int v3)]) hx hb dX11_findChances_115 hl (k := 4) rfl rfl (by decide) rfl (fun ls hl => ?_)
  refine lv_goto (tgt := 44) hx hb dX11_findChances_118 (by decide) ?_
  exact hK44 v1 v2 v3 (v4 + 1)  st hf H locs ls (lv_sub hl [1, 2, 3, 4, 0] rfl) hP hS
def fX11_findChances_s109 (n : Nat) (K36 : Int32 → Int32 → Int32 → St → Option (Unit × St)) (K44 : Int32 → Int32 → Int32 → Int32 → St → Option (Unit × St)) (K62 : Int32 → Int32 → Int32 → Int32 → Int32 → St → Option (Unit × St))  (v1 : Int32) (v2 : Int32) (v3 : Int32) (v4 : Int32) (v5 : Int32) (st : St) : Option (Unit × St) := K62 v1 v2 v3 v4 (v5 + 1) st
set_option maxHeartbeats 4000000 in
set_option maxRecDepth 100000 in
theorem wX11_findChances_s109 (C : Cx p s m args meth c cX11_findChances 6 wsL_law RX11 none D G ad) (n : Nat) (K36 : Int32 → Int32 → Int32 → St → Option (Unit × St)) (K44 : Int32 → Int32 → Int32 → Int32 → St → Option (Unit × St)) (K62 : Int32 → Int32 → Int32 → Int32 → Int32 → St → Option (Unit × St))  (v1 : Int32) (v2 : Int32) (v3 : Int32) (v4 : Int32) (v5 : Int32)   (st : St) (res : (Unit × St)) (hK36 : ∀ (v1 : Int32) (v2 : Int32) (v3 : Int32) (st : St), K36 v1 v2 v3 st = some res → At p l e (rmK 0) s m args below meth c D G ad (MQV D G ad below args s res) 6 st [(0, .ref (ad 130)), (1, .int v1), (2, .int v2), (3, .int v3)] 36 []) (hK44 : ∀ (v1 : Int32) (v2 : Int32) (v3 : Int32) (v4 : Int32) (st : St), K44 v1 v2 v3 v4 st = some res → At p l e (rmK 0) s m args below meth c D G ad (MQV D G ad below args s res) 6 st [(0, .ref (ad 130)), (1, .int v1), (2, .int v2), (3, .int v3), (4, .int v4)] 44 []) (hK62 : ∀ (v1 : Int32) (v2 : Int32) (v3 : Int32) (v4 : Int32) (v5 : Int32) (st : St), K62 v1 v2 v3 v4 v5 st = some res → At p l e (rmK 0) s m args below meth c D G ad (MQV D G ad below args s res) 6 st [(0, .ref (ad 130)), (1, .int v1), (2, .int v2), (3, .int v3), (4, .int v4), (5, .int v5)] 62 []) (hf : fX11_findChances_s109 n K36 K44 K62  v1 v2 v3 v4 v5 st = some res) : At p l e (rmK 0) s m args below meth c D G ad (MQV D G ad below args s res) 6 st [(0, .ref (ad 130)), (1, .int v1), (2, .int v2), (3, .int v3), (4, .int v4), (5, .int v5)] 109 [] := by
  obtain ⟨hx, hb, hml, hown, hts, hr, hlk, hK, had, hSt⟩ := id C
  intro H locs ls hl hP hS
  unfold fX11_findChances_s109 at hf
  refine lv_iinc (v := v5 + 1) (lv' := [(5, .int (v5 + 1)), (0, .ref (ad 130)), (1, .int v1), (2, .int v2), (3, .int v3), (4, .int v4)]) hx hb dX11_findChances_109 hl (k := 5) rfl rfl (by decide) rfl (fun ls hl => ?_)
  refine lv_goto (tgt := 62) hx hb dX11_findChances_112 (by decide) ?_
  exact hK62 v1 v2 v3 v4 (v5 + 1)  st hf H locs ls (lv_sub hl [1, 2, 3, 4, 5, 0] rfl) hP hS
def fX11_findChances_s75 (n : Nat) (K36 : Int32 → Int32 → Int32 → St → Option (Unit × St)) (K44 : Int32 → Int32 → Int32 → Int32 → St → Option (Unit × St)) (K62 : Int32 → Int32 → Int32 → Int32 → Int32 → St → Option (Unit × St))  (v1 : Int32) (v2 : Int32) (v3 : Int32) (v4 : Int32) (v5 : Int32) (st : St) : Option (Unit × St) := if inb v4 25 = true then (if inb v5 5 = true then (if inb (((25 * v1) + v4) - v5) 50 = true then (if inb v4 25 = true then (fX11_findChances_s109 n K36 K44 K62 v1 v2 v3 v4 v5 (setJ st 167 v4.toNatClampNeg ((st.2 167 v4.toNatClampNeg) + (((st.1 165 v5.toNatClampNeg).toInt64) * (st.2 166 (((25 * v1) + v4) - v5).toNatClampNeg))))) else none) else none) else none) else none
set_option maxHeartbeats 4000000 in
set_option maxRecDepth 100000 in
theorem wX11_findChances_s75 (C : Cx p s m args meth c cX11_findChances 6 wsL_law RX11 none D G ad) (n : Nat) (K36 : Int32 → Int32 → Int32 → St → Option (Unit × St)) (K44 : Int32 → Int32 → Int32 → Int32 → St → Option (Unit × St)) (K62 : Int32 → Int32 → Int32 → Int32 → Int32 → St → Option (Unit × St))  (v1 : Int32) (v2 : Int32) (v3 : Int32) (v4 : Int32) (v5 : Int32)   (st : St) (res : (Unit × St)) (hK36 : ∀ (v1 : Int32) (v2 : Int32) (v3 : Int32) (st : St), K36 v1 v2 v3 st = some res → At p l e (rmK 0) s m args below meth c D G ad (MQV D G ad below args s res) 6 st [(0, .ref (ad 130)), (1, .int v1), (2, .int v2), (3, .int v3)] 36 []) (hK44 : ∀ (v1 : Int32) (v2 : Int32) (v3 : Int32) (v4 : Int32) (st : St), K44 v1 v2 v3 v4 st = some res → At p l e (rmK 0) s m args below meth c D G ad (MQV D G ad below args s res) 6 st [(0, .ref (ad 130)), (1, .int v1), (2, .int v2), (3, .int v3), (4, .int v4)] 44 []) (hK62 : ∀ (v1 : Int32) (v2 : Int32) (v3 : Int32) (v4 : Int32) (v5 : Int32) (st : St), K62 v1 v2 v3 v4 v5 st = some res → At p l e (rmK 0) s m args below meth c D G ad (MQV D G ad below args s res) 6 st [(0, .ref (ad 130)), (1, .int v1), (2, .int v2), (3, .int v3), (4, .int v4), (5, .int v5)] 62 []) (hf : fX11_findChances_s75 n K36 K44 K62  v1 v2 v3 v4 v5 st = some res) : At p l e (rmK 0) s m args below meth c D G ad (MQV D G ad below args s res) 6 st [(0, .ref (ad 130)), (1, .int v1), (2, .int v2), (3, .int v3), (4, .int v4), (5, .int v5)] 75 [] := by
  obtain ⟨hx, hb, hml, hown, hts, hr, hlk, hK, had, hSt⟩ := id C
  intro H locs ls hl hP hS
  unfold fX11_findChances_s75 at hf
  refine lv_aload_n hx hb dX11_findChances_75 rfl (lv_at hl 0 rfl) ?_
  refine g_getR hx hb hts inlX11 hown hK hP 130 ct_130 rfl 60 (by decide) (hts _ wm_8_19) rfl dX11_findChances_76 ?_
  refine lv_iload hx hb dX11_findChances_79 (lv_at hl 4 rfl) ?_
  refine lv_dup2_11 hx hb dX11_findChances_81 rfl rfl ?_
  obtain ⟨g1, hf⟩ := gd hf
  refine g_lald hx hb hK hP 167 ct_167 g1 dX11_findChances_82 ?_
  refine lv_aload_n hx hb dX11_findChances_83 rfl (lv_at hl 0 rfl) ?_
  refine g_getR hx hb hts inlX11 hown hK hP 130 ct_130 rfl 58 (by decide) (hts _ wm_8_17) rfl dX11_findChances_84 ?_
  refine lv_iload hx hb dX11_findChances_87 (lv_at hl 5 rfl) ?_
  obtain ⟨g2, hf⟩ := gd hf
  refine g_iald hx hb hK hP 165 ct_165 g2 dX11_findChances_89 ?_
  refine lv_i2l hx hb dX11_findChances_90 rfl ?_
  refine lv_aload_n hx hb dX11_findChances_91 rfl (lv_at hl 0 rfl) ?_
  refine g_getR hx hb hts inlX11 hown hK hP 130 ct_130 rfl 59 (by decide) (hts _ wm_8_18) rfl dX11_findChances_92 ?_
  refine lv_bipush (v := 25) hx hb dX11_findChances_95 (by decide) ?_
  refine lv_iload_n hx hb dX11_findChances_97 rfl (lv_at hl 1 rfl) ?_
  refine lv_imul hx hb dX11_findChances_98 ?_
  refine lv_iload hx hb dX11_findChances_99 (lv_at hl 4 rfl) ?_
  refine lv_iadd hx hb dX11_findChances_101 ?_
  refine lv_iload hx hb dX11_findChances_102 (lv_at hl 5 rfl) ?_
  refine lv_isub hx hb dX11_findChances_104 ?_
  obtain ⟨g3, hf⟩ := gd hf
  refine g_lald hx hb hK hP 166 ct_166 g3 dX11_findChances_105 ?_
  refine lv_lmul hx hb dX11_findChances_106 ?_
  refine lv_ladd hx hb dX11_findChances_107 ?_
  obtain ⟨g4, hf⟩ := gd hf
  refine g_last hx hb hK had hP hS 167 ct_167 g4 dX11_findChances_108 (fun H locs hP hS => ?_)
  exact wX11_findChances_s109 C n K36 K44 K62 v1 v2 v3 v4 v5 (setJ st 167 v4.toNatClampNeg ((st.2 167 v4.toNatClampNeg) + (((st.1 165 v5.toNatClampNeg).toInt64) * (st.2 166 (((25 * v1) + v4) - v5).toNatClampNeg)))) res hK36 hK44 hK62 hf H locs ls (lv_sub hl [0, 1, 2, 3, 4, 5] rfl) hP hS
def fX11_findChances_s68 (n : Nat) (K36 : Int32 → Int32 → Int32 → St → Option (Unit × St)) (K44 : Int32 → Int32 → Int32 → Int32 → St → Option (Unit × St)) (K62 : Int32 → Int32 → Int32 → Int32 → Int32 → St → Option (Unit × St))  (v1 : Int32) (v2 : Int32) (v3 : Int32) (v4 : Int32) (v5 : Int32) (st : St) : Option (Unit × St) := if v4 < v5 then fX11_findChances_s115 n K36 K44 v1 v2 v3 v4 st else fX11_findChances_s75 n K36 K44 K62 v1 v2 v3 v4 v5 st
set_option maxHeartbeats 4000000 in
set_option maxRecDepth 100000 in
theorem wX11_findChances_s68 (C : Cx p s m args meth c cX11_findChances 6 wsL_law RX11 none D G ad) (n : Nat) (K36 : Int32 → Int32 → Int32 → St → Option (Unit × St)) (K44 : Int32 → Int32 → Int32 → Int32 → St → Option (Unit × St)) (K62 : Int32 → Int32 → Int32 → Int32 → Int32 → St → Option (Unit × St))  (v1 : Int32) (v2 : Int32) (v3 : Int32) (v4 : Int32) (v5 : Int32)   (st : St) (res : (Unit × St)) (hK36 : ∀ (v1 : Int32) (v2 : Int32) (v3 : Int32) (st : St), K36 v1 v2 v3 st = some res → At p l e (rmK 0) s m args below meth c D G ad (MQV D G ad below args s res) 6 st [(0, .ref (ad 130)), (1, .int v1), (2, .int v2), (3, .int v3)] 36 []) (hK44 : ∀ (v1 : Int32) (v2 : Int32) (v3 : Int32) (v4 : Int32) (st : St), K44 v1 v2 v3 v4 st = some res → At p l e (rmK 0) s m args below meth c D G ad (MQV D G ad below args s res) 6 st [(0, .ref (ad 130)), (1, .int v1), (2, .int v2), (3, .int v3), (4, .int v4)] 44 []) (hK62 : ∀ (v1 : Int32) (v2 : Int32) (v3 : Int32) (v4 : Int32) (v5 : Int32) (st : St), K62 v1 v2 v3 v4 v5 st = some res → At p l e (rmK 0) s m args below meth c D G ad (MQV D G ad below args s res) 6 st [(0, .ref (ad 130)), (1, .int v1), (2, .int v2), (3, .int v3), (4, .int v4), (5, .int v5)] 62 []) (hf : fX11_findChances_s68 n K36 K44 K62  v1 v2 v3 v4 v5 st = some res) : At p l e (rmK 0) s m args below meth c D G ad (MQV D G ad below args s res) 6 st [(0, .ref (ad 130)), (1, .int v1), (2, .int v2), (3, .int v3), (4, .int v4), (5, .int v5)] 68 [] := by
  obtain ⟨hx, hb, hml, hown, hts, hr, hlk, hK, had, hSt⟩ := id C
  intro H locs ls hl hP hS
  unfold fX11_findChances_s68 at hf
  refine lv_iload hx hb dX11_findChances_68 (lv_at hl 5 rfl) ?_
  refine lv_iload hx hb dX11_findChances_70 (lv_at hl 4 rfl) ?_
  refine lv_icmp_gt (tgt := 115) hx hb dX11_findChances_72 (by decide) (fun q => ?_) (fun q => ?_)
  · exact wX11_findChances_s115 C n K36 K44 v1 v2 v3 v4 st res hK36 hK44 (it hf q) H locs ls (lv_sub hl [0, 1, 2, 3, 4] rfl) hP hS
  · exact wX11_findChances_s75 C n K36 K44 K62 v1 v2 v3 v4 v5 st res hK36 hK44 hK62 (ie hf q) H locs ls (lv_sub hl [0, 1, 2, 3, 4, 5] rfl) hP hS
def fX11_findChances_s62 (n : Nat) (K36 : Int32 → Int32 → Int32 → St → Option (Unit × St)) (K44 : Int32 → Int32 → Int32 → Int32 → St → Option (Unit × St)) (K62 : Int32 → Int32 → Int32 → Int32 → Int32 → St → Option (Unit × St))  (v1 : Int32) (v2 : Int32) (v3 : Int32) (v4 : Int32) (v5 : Int32) (st : St) : Option (Unit × St) := if 5 ≤ v5 then fX11_findChances_s115 n K36 K44 v1 v2 v3 v4 st else fX11_findChances_s68 n K36 K44 K62 v1 v2 v3 v4 v5 st
set_option maxHeartbeats 4000000 in
set_option maxRecDepth 100000 in
theorem wX11_findChances_s62 (C : Cx p s m args meth c cX11_findChances 6 wsL_law RX11 none D G ad) (n : Nat) (K36 : Int32 → Int32 → Int32 → St → Option (Unit × St)) (K44 : Int32 → Int32 → Int32 → Int32 → St → Option (Unit × St)) (K62 : Int32 → Int32 → Int32 → Int32 → Int32 → St → Option (Unit × St))  (v1 : Int32) (v2 : Int32) (v3 : Int32) (v4 : Int32) (v5 : Int32)   (st : St) (res : (Unit × St)) (hK36 : ∀ (v1 : Int32) (v2 : Int32) (v3 : Int32) (st : St), K36 v1 v2 v3 st = some res → At p l e (rmK 0) s m args below meth c D G ad (MQV D G ad below args s res) 6 st [(0, .ref (ad 130)), (1, .int v1), (2, .int v2), (3, .int v3)] 36 []) (hK44 : ∀ (v1 : Int32) (v2 : Int32) (v3 : Int32) (v4 : Int32) (st : St), K44 v1 v2 v3 v4 st = some res → At p l e (rmK 0) s m args below meth c D G ad (MQV D G ad below args s res) 6 st [(0, .ref (ad 130)), (1, .int v1), (2, .int v2), (3, .int v3), (4, .int v4)] 44 []) (hK62 : ∀ (v1 : Int32) (v2 : Int32) (v3 : Int32) (v4 : Int32) (v5 : Int32) (st : St), K62 v1 v2 v3 v4 v5 st = some res → At p l e (rmK 0) s m args below meth c D G ad (MQV D G ad below args s res) 6 st [(0, .ref (ad 130)), (1, .int v1), (2, .int v2), (3, .int v3), (4, .int v4), (5, .int v5)] 62 []) (hf : fX11_findChances_s62 n K36 K44 K62  v1 v2 v3 v4 v5 st = some res) : At p l e (rmK 0) s m args below meth c D G ad (MQV D G ad below args s res) 6 st [(0, .ref (ad 130)), (1, .int v1), (2, .int v2), (3, .int v3), (4, .int v4), (5, .int v5)] 62 [] := by
  obtain ⟨hx, hb, hml, hown, hts, hr, hlk, hK, had, hSt⟩ := id C
  intro H locs ls hl hP hS
  unfold fX11_findChances_s62 at hf
  refine lv_iload hx hb dX11_findChances_62 (lv_at hl 5 rfl) ?_
  refine lv_iconst (v := 5) hx hb dX11_findChances_64 (by decide) ?_
  refine lv_icmp_ge (tgt := 115) hx hb dX11_findChances_65 (by decide) (fun q => ?_) (fun q => ?_)
  · exact wX11_findChances_s115 C n K36 K44 v1 v2 v3 v4 st res hK36 hK44 (it hf q) H locs ls (lv_sub hl [0, 1, 2, 3, 4] rfl) hP hS
  · exact wX11_findChances_s68 C n K36 K44 K62 v1 v2 v3 v4 v5 st res hK36 hK44 hK62 (ie hf q) H locs ls (lv_sub hl [0, 1, 2, 3, 4, 5] rfl) hP hS
def fX11_findChances_L62 (n : Nat) (K36 : Int32 → Int32 → Int32 → St → Option (Unit × St)) (K44 : Int32 → Int32 → Int32 → Int32 → St → Option (Unit × St))  : Nat → Int32 → Int32 → Int32 → Int32 → Int32 → St → Option (Unit × St)
  | 0, _, _, _, _, _, _ => none
  | k + 1, v1, v2, v3, v4, v5, st => fX11_findChances_s62 n K36 K44 (fX11_findChances_L62 n K36 K44 k)  v1 v2 v3 v4 v5 st
theorem wX11_findChances_L62 (C : Cx p s m args meth c cX11_findChances 6 wsL_law RX11 none D G ad) (n : Nat) (K36 : Int32 → Int32 → Int32 → St → Option (Unit × St)) (K44 : Int32 → Int32 → Int32 → Int32 → St → Option (Unit × St))   (res : (Unit × St)) (hK36 : ∀ (v1 : Int32) (v2 : Int32) (v3 : Int32) (st : St), K36 v1 v2 v3 st = some res → At p l e (rmK 0) s m args below meth c D G ad (MQV D G ad below args s res) 6 st [(0, .ref (ad 130)), (1, .int v1), (2, .int v2), (3, .int v3)] 36 []) (hK44 : ∀ (v1 : Int32) (v2 : Int32) (v3 : Int32) (v4 : Int32) (st : St), K44 v1 v2 v3 v4 st = some res → At p l e (rmK 0) s m args below meth c D G ad (MQV D G ad below args s res) 6 st [(0, .ref (ad 130)), (1, .int v1), (2, .int v2), (3, .int v3), (4, .int v4)] 44 []) : ∀ (k : Nat) (v1 : Int32) (v2 : Int32) (v3 : Int32) (v4 : Int32) (v5 : Int32)  (st : St), fX11_findChances_L62 n K36 K44 k v1 v2 v3 v4 v5 st = some res → At p l e (rmK 0) s m args below meth c D G ad (MQV D G ad below args s res) 6 st [(0, .ref (ad 130)), (1, .int v1), (2, .int v2), (3, .int v3), (4, .int v4), (5, .int v5)] 62 [] := by
  intro k
  induction k with
  | zero => intro v1 v2 v3 v4 v5  st h; exact absurd h (by intro q; cases q)
  | succ k ih => intro v1 v2 v3 v4 v5  st h; exact wX11_findChances_s62 C n K36 K44 (fX11_findChances_L62 n K36 K44 k)  v1 v2 v3 v4 v5   st res hK36 hK44 ih h
def fX11_findChances_s59 (n : Nat) (K36 : Int32 → Int32 → Int32 → St → Option (Unit × St)) (K44 : Int32 → Int32 → Int32 → Int32 → St → Option (Unit × St))  (v1 : Int32) (v2 : Int32) (v3 : Int32) (v4 : Int32) (st : St) : Option (Unit × St) := fX11_findChances_L62 n K36 K44 n v1 v2 v3 v4 0 st
set_option maxHeartbeats 4000000 in
set_option maxRecDepth 100000 in
theorem wX11_findChances_s59 (C : Cx p s m args meth c cX11_findChances 6 wsL_law RX11 none D G ad) (n : Nat) (K36 : Int32 → Int32 → Int32 → St → Option (Unit × St)) (K44 : Int32 → Int32 → Int32 → Int32 → St → Option (Unit × St))  (v1 : Int32) (v2 : Int32) (v3 : Int32) (v4 : Int32)   (st : St) (res : (Unit × St)) (hK36 : ∀ (v1 : Int32) (v2 : Int32) (v3 : Int32) (st : St), K36 v1 v2 v3 st = some res → At p l e (rmK 0) s m args below meth c D G ad (MQV D G ad below args s res) 6 st [(0, .ref (ad 130)), (1, .int v1), (2, .int v2), (3, .int v3)] 36 []) (hK44 : ∀ (v1 : Int32) (v2 : Int32) (v3 : Int32) (v4 : Int32) (st : St), K44 v1 v2 v3 v4 st = some res → At p l e (rmK 0) s m args below meth c D G ad (MQV D G ad below args s res) 6 st [(0, .ref (ad 130)), (1, .int v1), (2, .int v2), (3, .int v3), (4, .int v4)] 44 []) (hf : fX11_findChances_s59 n K36 K44  v1 v2 v3 v4 st = some res) : At p l e (rmK 0) s m args below meth c D G ad (MQV D G ad below args s res) 6 st [(0, .ref (ad 130)), (1, .int v1), (2, .int v2), (3, .int v3), (4, .int v4)] 59 [] := by
  obtain ⟨hx, hb, hml, hown, hts, hr, hlk, hK, had, hSt⟩ := id C
  intro H locs ls hl hP hS
  unfold fX11_findChances_s59 at hf
  refine lv_iconst (v := 0) hx hb dX11_findChances_59 (by decide) ?_
  refine lv_istore (lv' := [(5, .int 0), (0, .ref (ad 130)), (1, .int v1), (2, .int v2), (3, .int v3), (4, .int v4)]) hx hb dX11_findChances_60 hl (by decide) rfl (fun ls hl => ?_)
  exact wX11_findChances_L62 C n K36 K44 res hK36 hK44 n v1 v2 v3 v4 0 st hf H locs ls (lv_sub hl [1, 2, 3, 4, 5, 0] rfl) hP hS
def fX11_findChances_s51 (n : Nat) (K36 : Int32 → Int32 → Int32 → St → Option (Unit × St)) (K44 : Int32 → Int32 → Int32 → Int32 → St → Option (Unit × St))  (v1 : Int32) (v2 : Int32) (v3 : Int32) (v4 : Int32) (st : St) : Option (Unit × St) := if inb v4 25 = true then (fX11_findChances_s59 n K36 K44 v1 v2 v3 v4 (setJ st 167 v4.toNatClampNeg 0)) else none
set_option maxHeartbeats 4000000 in
set_option maxRecDepth 100000 in
theorem wX11_findChances_s51 (C : Cx p s m args meth c cX11_findChances 6 wsL_law RX11 none D G ad) (n : Nat) (K36 : Int32 → Int32 → Int32 → St → Option (Unit × St)) (K44 : Int32 → Int32 → Int32 → Int32 → St → Option (Unit × St))  (v1 : Int32) (v2 : Int32) (v3 : Int32) (v4 : Int32)   (st : St) (res : (Unit × St)) (hK36 : ∀ (v1 : Int32) (v2 : Int32) (v3 : Int32) (st : St), K36 v1 v2 v3 st = some res → At p l e (rmK 0) s m args below meth c D G ad (MQV D G ad below args s res) 6 st [(0, .ref (ad 130)), (1, .int v1), (2, .int v2), (3, .int v3)] 36 []) (hK44 : ∀ (v1 : Int32) (v2 : Int32) (v3 : Int32) (v4 : Int32) (st : St), K44 v1 v2 v3 v4 st = some res → At p l e (rmK 0) s m args below meth c D G ad (MQV D G ad below args s res) 6 st [(0, .ref (ad 130)), (1, .int v1), (2, .int v2), (3, .int v3), (4, .int v4)] 44 []) (hf : fX11_findChances_s51 n K36 K44  v1 v2 v3 v4 st = some res) : At p l e (rmK 0) s m args below meth c D G ad (MQV D G ad below args s res) 6 st [(0, .ref (ad 130)), (1, .int v1), (2, .int v2), (3, .int v3), (4, .int v4)] 51 [] := by
  obtain ⟨hx, hb, hml, hown, hts, hr, hlk, hK, had, hSt⟩ := id C
  intro H locs ls hl hP hS
  unfold fX11_findChances_s51 at hf
  refine lv_aload_n hx hb dX11_findChances_51 rfl (lv_at hl 0 rfl) ?_
  refine g_getR hx hb hts inlX11 hown hK hP 130 ct_130 rfl 60 (by decide) (hts _ wm_8_19) rfl dX11_findChances_52 ?_
  refine lv_iload hx hb dX11_findChances_55 (lv_at hl 4 rfl) ?_
  refine lv_lconst (v := 0) hx hb dX11_findChances_57 (by decide) ?_
  obtain ⟨g1, hf⟩ := gd hf
  refine g_last hx hb hK had hP hS 167 ct_167 g1 dX11_findChances_58 (fun H locs hP hS => ?_)
  exact wX11_findChances_s59 C n K36 K44 v1 v2 v3 v4 (setJ st 167 v4.toNatClampNeg 0) res hK36 hK44 hf H locs ls (lv_sub hl [0, 1, 2, 3, 4] rfl) hP hS
def fX11_findChances_s44 (n : Nat) (K36 : Int32 → Int32 → Int32 → St → Option (Unit × St)) (K44 : Int32 → Int32 → Int32 → Int32 → St → Option (Unit × St))  (v1 : Int32) (v2 : Int32) (v3 : Int32) (v4 : Int32) (st : St) : Option (Unit × St) := if 25 ≤ v4 then fX11_findChances_s121 n K36 v1 v2 v3 st else fX11_findChances_s51 n K36 K44 v1 v2 v3 v4 st
set_option maxHeartbeats 4000000 in
set_option maxRecDepth 100000 in
theorem wX11_findChances_s44 (C : Cx p s m args meth c cX11_findChances 6 wsL_law RX11 none D G ad) (n : Nat) (K36 : Int32 → Int32 → Int32 → St → Option (Unit × St)) (K44 : Int32 → Int32 → Int32 → Int32 → St → Option (Unit × St))  (v1 : Int32) (v2 : Int32) (v3 : Int32) (v4 : Int32)   (st : St) (res : (Unit × St)) (hK36 : ∀ (v1 : Int32) (v2 : Int32) (v3 : Int32) (st : St), K36 v1 v2 v3 st = some res → At p l e (rmK 0) s m args below meth c D G ad (MQV D G ad below args s res) 6 st [(0, .ref (ad 130)), (1, .int v1), (2, .int v2), (3, .int v3)] 36 []) (hK44 : ∀ (v1 : Int32) (v2 : Int32) (v3 : Int32) (v4 : Int32) (st : St), K44 v1 v2 v3 v4 st = some res → At p l e (rmK 0) s m args below meth c D G ad (MQV D G ad below args s res) 6 st [(0, .ref (ad 130)), (1, .int v1), (2, .int v2), (3, .int v3), (4, .int v4)] 44 []) (hf : fX11_findChances_s44 n K36 K44  v1 v2 v3 v4 st = some res) : At p l e (rmK 0) s m args below meth c D G ad (MQV D G ad below args s res) 6 st [(0, .ref (ad 130)), (1, .int v1), (2, .int v2), (3, .int v3), (4, .int v4)] 44 [] := by
  obtain ⟨hx, hb, hml, hown, hts, hr, hlk, hK, had, hSt⟩ := id C
  intro H locs ls hl hP hS
  unfold fX11_findChances_s44 at hf
  refine lv_iload hx hb dX11_findChances_44 (lv_at hl 4 rfl) ?_
  refine lv_bipush (v := 25) hx hb dX11_findChances_46 (by decide) ?_
  refine lv_icmp_ge (tgt := 121) hx hb dX11_findChances_48 (by decide) (fun q => ?_) (fun q => ?_)
  · exact wX11_findChances_s121 C n K36 v1 v2 v3 st res hK36 (it hf q) H locs ls (lv_sub hl [0, 1, 2, 3] rfl) hP hS
  · exact wX11_findChances_s51 C n K36 K44 v1 v2 v3 v4 st res hK36 hK44 (ie hf q) H locs ls (lv_sub hl [0, 1, 2, 3, 4] rfl) hP hS
def fX11_findChances_L44 (n : Nat) (K36 : Int32 → Int32 → Int32 → St → Option (Unit × St))  : Nat → Int32 → Int32 → Int32 → Int32 → St → Option (Unit × St)
  | 0, _, _, _, _, _ => none
  | k + 1, v1, v2, v3, v4, st => fX11_findChances_s44 n K36 (fX11_findChances_L44 n K36 k)  v1 v2 v3 v4 st
theorem wX11_findChances_L44 (C : Cx p s m args meth c cX11_findChances 6 wsL_law RX11 none D G ad) (n : Nat) (K36 : Int32 → Int32 → Int32 → St → Option (Unit × St))   (res : (Unit × St)) (hK36 : ∀ (v1 : Int32) (v2 : Int32) (v3 : Int32) (st : St), K36 v1 v2 v3 st = some res → At p l e (rmK 0) s m args below meth c D G ad (MQV D G ad below args s res) 6 st [(0, .ref (ad 130)), (1, .int v1), (2, .int v2), (3, .int v3)] 36 []) : ∀ (k : Nat) (v1 : Int32) (v2 : Int32) (v3 : Int32) (v4 : Int32)  (st : St), fX11_findChances_L44 n K36 k v1 v2 v3 v4 st = some res → At p l e (rmK 0) s m args below meth c D G ad (MQV D G ad below args s res) 6 st [(0, .ref (ad 130)), (1, .int v1), (2, .int v2), (3, .int v3), (4, .int v4)] 44 [] := by
  intro k
  induction k with
  | zero => intro v1 v2 v3 v4  st h; exact absurd h (by intro q; cases q)
  | succ k ih => intro v1 v2 v3 v4  st h; exact wX11_findChances_s44 C n K36 (fX11_findChances_L44 n K36 k)  v1 v2 v3 v4   st res hK36 ih h
def fX11_findChances_s41 (n : Nat) (K36 : Int32 → Int32 → Int32 → St → Option (Unit × St))  (v1 : Int32) (v2 : Int32) (v3 : Int32) (st : St) : Option (Unit × St) := fX11_findChances_L44 n K36 n v1 v2 v3 0 st
set_option maxHeartbeats 4000000 in
set_option maxRecDepth 100000 in
theorem wX11_findChances_s41 (C : Cx p s m args meth c cX11_findChances 6 wsL_law RX11 none D G ad) (n : Nat) (K36 : Int32 → Int32 → Int32 → St → Option (Unit × St))  (v1 : Int32) (v2 : Int32) (v3 : Int32)   (st : St) (res : (Unit × St)) (hK36 : ∀ (v1 : Int32) (v2 : Int32) (v3 : Int32) (st : St), K36 v1 v2 v3 st = some res → At p l e (rmK 0) s m args below meth c D G ad (MQV D G ad below args s res) 6 st [(0, .ref (ad 130)), (1, .int v1), (2, .int v2), (3, .int v3)] 36 []) (hf : fX11_findChances_s41 n K36  v1 v2 v3 st = some res) : At p l e (rmK 0) s m args below meth c D G ad (MQV D G ad below args s res) 6 st [(0, .ref (ad 130)), (1, .int v1), (2, .int v2), (3, .int v3)] 41 [] := by
  obtain ⟨hx, hb, hml, hown, hts, hr, hlk, hK, had, hSt⟩ := id C
  intro H locs ls hl hP hS
  unfold fX11_findChances_s41 at hf
  refine lv_iconst (v := 0) hx hb dX11_findChances_41 (by decide) ?_
  refine lv_istore (lv' := [(4, .int 0), (0, .ref (ad 130)), (1, .int v1), (2, .int v2), (3, .int v3)]) hx hb dX11_findChances_42 hl (by decide) rfl (fun ls hl => ?_)
  exact wX11_findChances_L44 C n K36 res hK36 n v1 v2 v3 0 st hf H locs ls (lv_sub hl [1, 2, 3, 4, 0] rfl) hP hS
def fX11_findChances_s36 (n : Nat) (K36 : Int32 → Int32 → Int32 → St → Option (Unit × St))  (v1 : Int32) (v2 : Int32) (v3 : Int32) (st : St) : Option (Unit × St) := if v2 ≤ v3 then fX11_findChances_s162 n st else fX11_findChances_s41 n K36 v1 v2 v3 st
set_option maxHeartbeats 4000000 in
set_option maxRecDepth 100000 in
theorem wX11_findChances_s36 (C : Cx p s m args meth c cX11_findChances 6 wsL_law RX11 none D G ad) (n : Nat) (K36 : Int32 → Int32 → Int32 → St → Option (Unit × St))  (v1 : Int32) (v2 : Int32) (v3 : Int32)   (st : St) (res : (Unit × St)) (hK36 : ∀ (v1 : Int32) (v2 : Int32) (v3 : Int32) (st : St), K36 v1 v2 v3 st = some res → At p l e (rmK 0) s m args below meth c D G ad (MQV D G ad below args s res) 6 st [(0, .ref (ad 130)), (1, .int v1), (2, .int v2), (3, .int v3)] 36 []) (hf : fX11_findChances_s36 n K36  v1 v2 v3 st = some res) : At p l e (rmK 0) s m args below meth c D G ad (MQV D G ad below args s res) 6 st [(0, .ref (ad 130)), (1, .int v1), (2, .int v2), (3, .int v3)] 36 [] := by
  obtain ⟨hx, hb, hml, hown, hts, hr, hlk, hK, had, hSt⟩ := id C
  intro H locs ls hl hP hS
  unfold fX11_findChances_s36 at hf
  refine lv_iload_n hx hb dX11_findChances_36 rfl (lv_at hl 3 rfl) ?_
  refine lv_iload_n hx hb dX11_findChances_37 rfl (lv_at hl 2 rfl) ?_
  refine lv_icmp_ge (tgt := 162) hx hb dX11_findChances_38 (by decide) (fun q => ?_) (fun q => ?_)
  · exact wX11_findChances_s162 C n st res (it hf q) H locs ls (lv_sub hl [] rfl) hP hS
  · exact wX11_findChances_s41 C n K36 v1 v2 v3 st res hK36 (ie hf q) H locs ls (lv_sub hl [0, 1, 2, 3] rfl) hP hS
def fX11_findChances_L36 (n : Nat)   : Nat → Int32 → Int32 → Int32 → St → Option (Unit × St)
  | 0, _, _, _, _ => none
  | k + 1, v1, v2, v3, st => fX11_findChances_s36 n (fX11_findChances_L36 n k)  v1 v2 v3 st
theorem wX11_findChances_L36 (C : Cx p s m args meth c cX11_findChances 6 wsL_law RX11 none D G ad) (n : Nat)    (res : (Unit × St))  : ∀ (k : Nat) (v1 : Int32) (v2 : Int32) (v3 : Int32)  (st : St), fX11_findChances_L36 n k v1 v2 v3 st = some res → At p l e (rmK 0) s m args below meth c D G ad (MQV D G ad below args s res) 6 st [(0, .ref (ad 130)), (1, .int v1), (2, .int v2), (3, .int v3)] 36 [] := by
  intro k
  induction k with
  | zero => intro v1 v2 v3  st h; exact absurd h (by intro q; cases q)
  | succ k ih => intro v1 v2 v3  st h; exact wX11_findChances_s36 C n (fX11_findChances_L36 n k)  v1 v2 v3   st res ih h
def fX11_findChances_s34 (n : Nat)   (v1 : Int32) (v2 : Int32) (st : St) : Option (Unit × St) := fX11_findChances_L36 n n v1 v2 0 st
set_option maxHeartbeats 4000000 in
set_option maxRecDepth 100000 in
theorem wX11_findChances_s34 (C : Cx p s m args meth c cX11_findChances 6 wsL_law RX11 none D G ad) (n : Nat)   (v1 : Int32) (v2 : Int32)   (st : St) (res : (Unit × St))  (hf : fX11_findChances_s34 n   v1 v2 st = some res) : At p l e (rmK 0) s m args below meth c D G ad (MQV D G ad below args s res) 6 st [(0, .ref (ad 130)), (1, .int v1), (2, .int v2)] 34 [] := by
  obtain ⟨hx, hb, hml, hown, hts, hr, hlk, hK, had, hSt⟩ := id C
  intro H locs ls hl hP hS
  unfold fX11_findChances_s34 at hf
  refine lv_iconst (v := 0) hx hb dX11_findChances_34 (by decide) ?_
  refine lv_istore_n (lv' := [(3, .int 0), (0, .ref (ad 130)), (1, .int v1), (2, .int v2)]) hx hb dX11_findChances_35 rfl hl (by decide) rfl (fun ls hl => ?_)
  exact wX11_findChances_L36 C n res n v1 v2 0 st hf H locs ls (lv_sub hl [1, 2, 3, 0] rfl) hP hS
def fX11_findChances_s28 (n : Nat) (K2 : Int32 → Int32 → Int32 → St → Option (Unit × St))  (v1 : Int32) (v2 : Int32) (v3 : Int32) (st : St) : Option (Unit × St) := K2 v1 v2 (v3 + 1) st
set_option maxHeartbeats 4000000 in
set_option maxRecDepth 100000 in
theorem wX11_findChances_s28 (C : Cx p s m args meth c cX11_findChances 6 wsL_law RX11 none D G ad) (n : Nat) (K2 : Int32 → Int32 → Int32 → St → Option (Unit × St))  (v1 : Int32) (v2 : Int32) (v3 : Int32)   (st : St) (res : (Unit × St)) (hK2 : ∀ (v1 : Int32) (v2 : Int32) (v3 : Int32) (st : St), K2 v1 v2 v3 st = some res → At p l e (rmK 0) s m args below meth c D G ad (MQV D G ad below args s res) 6 st [(0, .ref (ad 130)), (1, .int v1), (2, .int v2), (3, .int v3)] 2 []) (hf : fX11_findChances_s28 n K2  v1 v2 v3 st = some res) : At p l e (rmK 0) s m args below meth c D G ad (MQV D G ad below args s res) 6 st [(0, .ref (ad 130)), (1, .int v1), (2, .int v2), (3, .int v3)] 28 [] := by
  obtain ⟨hx, hb, hml, hown, hts, hr, hlk, hK, had, hSt⟩ := id C
  intro H locs ls hl hP hS
  unfold fX11_findChances_s28 at hf
  refine lv_iinc (v := v3 + 1) (lv' := [(3, .int (v3 + 1)), (0, .ref (ad 130)), (1, .int v1), (2, .int v2)]) hx hb dX11_findChances_28 hl (k := 3) rfl rfl (by decide) rfl (fun ls hl => ?_)
  refine lv_goto (tgt := 2) hx hb dX11_findChances_31 (by decide) ?_
  exact hK2 v1 v2 (v3 + 1)  st hf H locs ls (lv_sub hl [1, 2, 3, 0] rfl) hP hS
def fX11_findChances_s27 (n : Nat) (K2 : Int32 → Int32 → Int32 → St → Option (Unit × St))  (v1 : Int32) (v2 : Int32) (v3 : Int32) (k1 : Int32) (k2 : Int64) (st : St) : Option (Unit × St) := if inb k1 50 = true then (fX11_findChances_s28 n K2 v1 v2 v3 (setJ st 166 k1.toNatClampNeg k2)) else none
set_option maxHeartbeats 4000000 in
set_option maxRecDepth 100000 in
theorem wX11_findChances_s27 (C : Cx p s m args meth c cX11_findChances 6 wsL_law RX11 none D G ad) (n : Nat) (K2 : Int32 → Int32 → Int32 → St → Option (Unit × St))  (v1 : Int32) (v2 : Int32) (v3 : Int32) (k1 : Int32) (k2 : Int64)   (st : St) (res : (Unit × St)) (hK2 : ∀ (v1 : Int32) (v2 : Int32) (v3 : Int32) (st : St), K2 v1 v2 v3 st = some res → At p l e (rmK 0) s m args below meth c D G ad (MQV D G ad below args s res) 6 st [(0, .ref (ad 130)), (1, .int v1), (2, .int v2), (3, .int v3)] 2 []) (hf : fX11_findChances_s27 n K2  v1 v2 v3 k1 k2 st = some res) : At p l e (rmK 0) s m args below meth c D G ad (MQV D G ad below args s res) 6 st [(0, .ref (ad 130)), (1, .int v1), (2, .int v2), (3, .int v3)] 27 [.long k2, .int k1, .ref (ad 166)] := by
  obtain ⟨hx, hb, hml, hown, hts, hr, hlk, hK, had, hSt⟩ := id C
  intro H locs ls hl hP hS
  unfold fX11_findChances_s27 at hf
  obtain ⟨g1, hf⟩ := gd hf
  refine g_last hx hb hK had hP hS 166 ct_166 g1 dX11_findChances_27 (fun H locs hP hS => ?_)
  exact wX11_findChances_s28 C n K2 v1 v2 v3 (setJ st 166 k1.toNatClampNeg k2) res hK2 hf H locs ls (lv_sub hl [0, 1, 2, 3] rfl) hP hS
def fX11_findChances_s26 (n : Nat) (K2 : Int32 → Int32 → Int32 → St → Option (Unit × St))  (v1 : Int32) (v2 : Int32) (v3 : Int32) (k1 : Int32) (st : St) : Option (Unit × St) := fX11_findChances_s27 n K2 v1 v2 v3 k1 0 st
set_option maxHeartbeats 4000000 in
set_option maxRecDepth 100000 in
theorem wX11_findChances_s26 (C : Cx p s m args meth c cX11_findChances 6 wsL_law RX11 none D G ad) (n : Nat) (K2 : Int32 → Int32 → Int32 → St → Option (Unit × St))  (v1 : Int32) (v2 : Int32) (v3 : Int32) (k1 : Int32)   (st : St) (res : (Unit × St)) (hK2 : ∀ (v1 : Int32) (v2 : Int32) (v3 : Int32) (st : St), K2 v1 v2 v3 st = some res → At p l e (rmK 0) s m args below meth c D G ad (MQV D G ad below args s res) 6 st [(0, .ref (ad 130)), (1, .int v1), (2, .int v2), (3, .int v3)] 2 []) (hf : fX11_findChances_s26 n K2  v1 v2 v3 k1 st = some res) : At p l e (rmK 0) s m args below meth c D G ad (MQV D G ad below args s res) 6 st [(0, .ref (ad 130)), (1, .int v1), (2, .int v2), (3, .int v3)] 26 [.int k1, .ref (ad 166)] := by
  obtain ⟨hx, hb, hml, hown, hts, hr, hlk, hK, had, hSt⟩ := id C
  intro H locs ls hl hP hS
  unfold fX11_findChances_s26 at hf
  refine lv_lconst (v := 0) hx hb dX11_findChances_26 (by decide) ?_
  exact wX11_findChances_s27 C n K2 v1 v2 v3 k1 0 st res hK2 hf H locs ls (lv_sub hl [0, 1, 2, 3] rfl) hP hS
def fX11_findChances_s22 (n : Nat) (K2 : Int32 → Int32 → Int32 → St → Option (Unit × St))  (v1 : Int32) (v2 : Int32) (v3 : Int32) (k1 : Int32) (st : St) : Option (Unit × St) := fX11_findChances_s27 n K2 v1 v2 v3 k1 1 st
set_option maxHeartbeats 4000000 in
set_option maxRecDepth 100000 in
theorem wX11_findChances_s22 (C : Cx p s m args meth c cX11_findChances 6 wsL_law RX11 none D G ad) (n : Nat) (K2 : Int32 → Int32 → Int32 → St → Option (Unit × St))  (v1 : Int32) (v2 : Int32) (v3 : Int32) (k1 : Int32)   (st : St) (res : (Unit × St)) (hK2 : ∀ (v1 : Int32) (v2 : Int32) (v3 : Int32) (st : St), K2 v1 v2 v3 st = some res → At p l e (rmK 0) s m args below meth c D G ad (MQV D G ad below args s res) 6 st [(0, .ref (ad 130)), (1, .int v1), (2, .int v2), (3, .int v3)] 2 []) (hf : fX11_findChances_s22 n K2  v1 v2 v3 k1 st = some res) : At p l e (rmK 0) s m args below meth c D G ad (MQV D G ad below args s res) 6 st [(0, .ref (ad 130)), (1, .int v1), (2, .int v2), (3, .int v3)] 22 [.int k1, .ref (ad 166)] := by
  obtain ⟨hx, hb, hml, hown, hts, hr, hlk, hK, had, hSt⟩ := id C
  intro H locs ls hl hP hS
  unfold fX11_findChances_s22 at hf
  refine lv_lconst (v := 1) hx hb dX11_findChances_22 (by decide) ?_
  refine lv_goto (tgt := 27) hx hb dX11_findChances_23 (by decide) ?_
  exact wX11_findChances_s27 C n K2 v1 v2 v3 k1 1 st res hK2 hf H locs ls (lv_sub hl [0, 1, 2, 3] rfl) hP hS
def fX11_findChances_s8 (n : Nat) (K2 : Int32 → Int32 → Int32 → St → Option (Unit × St))  (v1 : Int32) (v2 : Int32) (v3 : Int32) (st : St) : Option (Unit × St) := if v3 = 0 then fX11_findChances_s22 n K2 v1 v2 v3 ((25 * v1) + v3) st else fX11_findChances_s26 n K2 v1 v2 v3 ((25 * v1) + v3) st
set_option maxHeartbeats 4000000 in
set_option maxRecDepth 100000 in
theorem wX11_findChances_s8 (C : Cx p s m args meth c cX11_findChances 6 wsL_law RX11 none D G ad) (n : Nat) (K2 : Int32 → Int32 → Int32 → St → Option (Unit × St))  (v1 : Int32) (v2 : Int32) (v3 : Int32)   (st : St) (res : (Unit × St)) (hK2 : ∀ (v1 : Int32) (v2 : Int32) (v3 : Int32) (st : St), K2 v1 v2 v3 st = some res → At p l e (rmK 0) s m args below meth c D G ad (MQV D G ad below args s res) 6 st [(0, .ref (ad 130)), (1, .int v1), (2, .int v2), (3, .int v3)] 2 []) (hf : fX11_findChances_s8 n K2  v1 v2 v3 st = some res) : At p l e (rmK 0) s m args below meth c D G ad (MQV D G ad below args s res) 6 st [(0, .ref (ad 130)), (1, .int v1), (2, .int v2), (3, .int v3)] 8 [] := by
  obtain ⟨hx, hb, hml, hown, hts, hr, hlk, hK, had, hSt⟩ := id C
  intro H locs ls hl hP hS
  unfold fX11_findChances_s8 at hf
  refine lv_aload_n hx hb dX11_findChances_8 rfl (lv_at hl 0 rfl) ?_
  refine g_getR hx hb hts inlX11 hown hK hP 130 ct_130 rfl 59 (by decide) (hts _ wm_8_18) rfl dX11_findChances_9 ?_
  refine lv_bipush (v := 25) hx hb dX11_findChances_12 (by decide) ?_
  refine lv_iload_n hx hb dX11_findChances_14 rfl (lv_at hl 1 rfl) ?_
  refine lv_imul hx hb dX11_findChances_15 ?_
  refine lv_iload_n hx hb dX11_findChances_16 rfl (lv_at hl 3 rfl) ?_
  refine lv_iadd hx hb dX11_findChances_17 ?_
  refine lv_iload_n hx hb dX11_findChances_18 rfl (lv_at hl 3 rfl) ?_
  refine lv_if_ne (tgt := 26) hx hb dX11_findChances_19 (by decide) (fun q => ?_) (fun q => ?_)
  · exact wX11_findChances_s26 C n K2 v1 v2 v3 ((25 * v1) + v3) st res hK2 (ie hf q) H locs ls (lv_sub hl [0, 1, 2, 3] rfl) hP hS
  · exact wX11_findChances_s22 C n K2 v1 v2 v3 ((25 * v1) + v3) st res hK2 (it hf q) H locs ls (lv_sub hl [0, 1, 2, 3] rfl) hP hS
def fX11_findChances_s2 (n : Nat) (K2 : Int32 → Int32 → Int32 → St → Option (Unit × St))  (v1 : Int32) (v2 : Int32) (v3 : Int32) (st : St) : Option (Unit × St) := if 25 ≤ v3 then fX11_findChances_s34 n v1 v2 st else fX11_findChances_s8 n K2 v1 v2 v3 st
set_option maxHeartbeats 4000000 in
set_option maxRecDepth 100000 in
theorem wX11_findChances_s2 (C : Cx p s m args meth c cX11_findChances 6 wsL_law RX11 none D G ad) (n : Nat) (K2 : Int32 → Int32 → Int32 → St → Option (Unit × St))  (v1 : Int32) (v2 : Int32) (v3 : Int32)   (st : St) (res : (Unit × St)) (hK2 : ∀ (v1 : Int32) (v2 : Int32) (v3 : Int32) (st : St), K2 v1 v2 v3 st = some res → At p l e (rmK 0) s m args below meth c D G ad (MQV D G ad below args s res) 6 st [(0, .ref (ad 130)), (1, .int v1), (2, .int v2), (3, .int v3)] 2 []) (hf : fX11_findChances_s2 n K2  v1 v2 v3 st = some res) : At p l e (rmK 0) s m args below meth c D G ad (MQV D G ad below args s res) 6 st [(0, .ref (ad 130)), (1, .int v1), (2, .int v2), (3, .int v3)] 2 [] := by
  obtain ⟨hx, hb, hml, hown, hts, hr, hlk, hK, had, hSt⟩ := id C
  intro H locs ls hl hP hS
  unfold fX11_findChances_s2 at hf
  refine lv_iload_n hx hb dX11_findChances_2 rfl (lv_at hl 3 rfl) ?_
  refine lv_bipush (v := 25) hx hb dX11_findChances_3 (by decide) ?_
  refine lv_icmp_ge (tgt := 34) hx hb dX11_findChances_5 (by decide) (fun q => ?_) (fun q => ?_)
  · exact wX11_findChances_s34 C n v1 v2 st res (it hf q) H locs ls (lv_sub hl [0, 1, 2] rfl) hP hS
  · exact wX11_findChances_s8 C n K2 v1 v2 v3 st res hK2 (ie hf q) H locs ls (lv_sub hl [0, 1, 2, 3] rfl) hP hS
def fX11_findChances_L2 (n : Nat)   : Nat → Int32 → Int32 → Int32 → St → Option (Unit × St)
  | 0, _, _, _, _ => none
  | k + 1, v1, v2, v3, st => fX11_findChances_s2 n (fX11_findChances_L2 n k)  v1 v2 v3 st
theorem wX11_findChances_L2 (C : Cx p s m args meth c cX11_findChances 6 wsL_law RX11 none D G ad) (n : Nat)    (res : (Unit × St))  : ∀ (k : Nat) (v1 : Int32) (v2 : Int32) (v3 : Int32)  (st : St), fX11_findChances_L2 n k v1 v2 v3 st = some res → At p l e (rmK 0) s m args below meth c D G ad (MQV D G ad below args s res) 6 st [(0, .ref (ad 130)), (1, .int v1), (2, .int v2), (3, .int v3)] 2 [] := by
  intro k
  induction k with
  | zero => intro v1 v2 v3  st h; exact absurd h (by intro q; cases q)
  | succ k ih => intro v1 v2 v3  st h; exact wX11_findChances_s2 C n (fX11_findChances_L2 n k)  v1 v2 v3   st res ih h
def fX11_findChances_s0 (n : Nat)   (v1 : Int32) (v2 : Int32) (st : St) : Option (Unit × St) := fX11_findChances_L2 n n v1 v2 0 st
set_option maxHeartbeats 4000000 in
set_option maxRecDepth 100000 in
theorem wX11_findChances_s0 (C : Cx p s m args meth c cX11_findChances 6 wsL_law RX11 none D G ad) (n : Nat)   (v1 : Int32) (v2 : Int32)   (st : St) (res : (Unit × St))  (hf : fX11_findChances_s0 n   v1 v2 st = some res) : At p l e (rmK 0) s m args below meth c D G ad (MQV D G ad below args s res) 6 st [(0, .ref (ad 130)), (1, .int v1), (2, .int v2)] 0 [] := by
  obtain ⟨hx, hb, hml, hown, hts, hr, hlk, hK, had, hSt⟩ := id C
  intro H locs ls hl hP hS
  unfold fX11_findChances_s0 at hf
  refine lv_iconst (v := 0) hx hb dX11_findChances_0 (by decide) ?_
  refine lv_istore_n (lv' := [(3, .int 0), (0, .ref (ad 130)), (1, .int v1), (2, .int v2)]) hx hb dX11_findChances_1 rfl hl (by decide) rfl (fun ls hl => ?_)
  exact wX11_findChances_L2 C n res n v1 v2 0 st hf H locs ls (lv_sub hl [1, 2, 3, 0] rfl) hP hS
def fX11_findChances (n : Nat)  (a1 : Int32) (a2 : Int32) (st : St) : Option (Unit × St) := fX11_findChances_s0 n a1 a2 st
theorem okX11_findChances : okY yX11_findChances RX11 2 := by unfold okY; decide +kernel
end
set_option maxRecDepth 100000 in
theorem kX11_findChances (l : Launch) (D : va_G) (G : G3) (ad : Nat → Nat) (had : Adr ad) (n : Nat)   (a1 : Int32) (a2 : Int32) (st : St) (res : (Unit × St)) (hf : fX11_findChances n  a1 a2 st = some res) {sz : Nat} : CtV l yX11_findChances (wsU yX11_findChances cX11_findChances 6 none) (rmK 0) D G ad sz [.ref (ad 130), .int a1, .int a2] st res := by
  refine Met.ofW (cc := cX11_findChances) (maxL := 6) (ret := none) (by decide) rfl ?_
  intro p e s m args below meth c s₁ B hml hv
  obtain ⟨rfl, hsz, hP, hK, hSt⟩ := hv
  have hts := atoms_spec (ws := wsU yX11_findChances cX11_findChances 6 none) B.pre
  have C : Cx p s m _ meth c cX11_findChances 6 wsL_law RX11 none D G ad := ⟨B.exec, B.bytes, hml, findClass_of_methodNamed B.named, fun w h => hts w (List.mem_cons_of_mem _ h), B.returns, B.notSynchronized, hK, had, hSt⟩
  subst hsz
  have hl := lv_entry ([.ref (ad 130), .int a1, .int a2]) (n := 6) (Nat.le_of_ble_eq_true rfl)
  rw [lg_entry_eq]
  generalize (lg_sl ([.ref (ad 130), .int a1, .int a2]) ++ List.replicate (6 - (lg_sl ([.ref (ad 130), .int a1, .int a2])).length) Slot.unset).toArray = ls at hl ⊢
  exact wX11_findChances_s0 C n  a1 a2   st res hf s.heap [] ls (lv_sub hl [0, 1, 2] rfl) hP va_S.rf
section
variable {p : Program} {l : Launch} {e : Env} {s : State} {m : MethodId} {args : Array Value} {below : List Frame} {meth : Method} {c : Code} {D : va_G} {G : G3} {ad : Nat → Nat}
def fX11_chance_s16 (n : Nat)    (st : St) : Option (Int64 × St) := some ((-9223372036854775808), st)
set_option maxHeartbeats 4000000 in
set_option maxRecDepth 100000 in
theorem wX11_chance_s16 (C : Cx p s m args meth c cX11_chance 3 wsL_law RX11 (some .long) D G ad) (n : Nat)      (st : St) (res : (Int64 × St))  (hf : fX11_chance_s16 n    st = some res) : At p l e (rmK 1) s m args below meth c D G ad (MQJ D G ad below args s res) 3 st [] 16 [] := by
  obtain ⟨hx, hb, hml, hown, hts, hr, hlk, hK, had, hSt⟩ := id C
  intro H locs ls hl hP hS
  unfold fX11_chance_s16 at hf
  refine lv_ldc2 hx hb hown (hts _ wm_14_15) dX11_chance_16 ?_
  exact g_lret hx hb hr hlk hP hS dX11_chance_19 hf
def fX11_chance_s42 (n : Nat)   (k0 : Int64) (st : St) : Option (Int64 × St) := some (k0, st)
set_option maxHeartbeats 4000000 in
set_option maxRecDepth 100000 in
theorem wX11_chance_s42 (C : Cx p s m args meth c cX11_chance 3 wsL_law RX11 (some .long) D G ad) (n : Nat)   (k0 : Int64)   (st : St) (res : (Int64 × St))  (hf : fX11_chance_s42 n   k0 st = some res) : At p l e (rmK 1) s m args below meth c D G ad (MQJ D G ad below args s res) 3 st [] 42 [.long k0] := by
  obtain ⟨hx, hb, hml, hown, hts, hr, hlk, hK, had, hSt⟩ := id C
  intro H locs ls hl hP hS
  unfold fX11_chance_s42 at hf
  exact g_lret hx hb hr hlk hP hS dX11_chance_42 hf
def fX11_chance_s41 (n : Nat)    (st : St) : Option (Int64 × St) := fX11_chance_s42 n 0 st
set_option maxHeartbeats 4000000 in
set_option maxRecDepth 100000 in
theorem wX11_chance_s41 (C : Cx p s m args meth c cX11_chance 3 wsL_law RX11 (some .long) D G ad) (n : Nat)      (st : St) (res : (Int64 × St))  (hf : fX11_chance_s41 n    st = some res) : At p l e (rmK 1) s m args below meth c D G ad (MQJ D G ad below args s res) 3 st [] 41 [] := by
  obtain ⟨hx, hb, hml, hown, hts, hr, hlk, hK, had, hSt⟩ := id C
  intro H locs ls hl hP hS
  unfold fX11_chance_s41 at hf
  refine lv_lconst (v := 0) hx hb dX11_chance_41 (by decide) ?_
  exact wX11_chance_s42 C n 0 st res hf H locs ls (lv_sub hl [] rfl) hP hS
def fX11_chance_s32 (n : Nat)   (v2 : Int32) (st : St) : Option (Int64 × St) := if inb v2 50 = true then (fX11_chance_s42 n (st.2 166 v2.toNatClampNeg) st) else none
set_option maxHeartbeats 4000000 in
set_option maxRecDepth 100000 in
theorem wX11_chance_s32 (C : Cx p s m args meth c cX11_chance 3 wsL_law RX11 (some .long) D G ad) (n : Nat)   (v2 : Int32)   (st : St) (res : (Int64 × St))  (hf : fX11_chance_s32 n   v2 st = some res) : At p l e (rmK 1) s m args below meth c D G ad (MQJ D G ad below args s res) 3 st [(0, .ref (ad 130)), (2, .int v2)] 32 [] := by
  obtain ⟨hx, hb, hml, hown, hts, hr, hlk, hK, had, hSt⟩ := id C
  intro H locs ls hl hP hS
  unfold fX11_chance_s32 at hf
  refine lv_aload_n hx hb dX11_chance_32 rfl (lv_at hl 0 rfl) ?_
  refine g_getR hx hb hts inlX11 hown hK hP 130 ct_130 rfl 59 (by decide) (hts _ wm_8_18) rfl dX11_chance_33 ?_
  refine lv_iload_n hx hb dX11_chance_36 rfl (lv_at hl 1 rfl) ?_
  obtain ⟨g1, hf⟩ := gd hf
  refine g_lald hx hb hK hP 166 ct_166 g1 dX11_chance_37 ?_
  refine lv_goto (tgt := 42) hx hb dX11_chance_38 (by decide) ?_
  exact wX11_chance_s42 C n (st.2 166 v2.toNatClampNeg) st res hf H locs ls (lv_sub hl [] rfl) hP hS
def fX11_chance_s26 (n : Nat)   (v2 : Int32) (st : St) : Option (Int64 × St) := if 25 ≤ v2 then fX11_chance_s41 n st else fX11_chance_s32 n v2 st
set_option maxHeartbeats 4000000 in
set_option maxRecDepth 100000 in
theorem wX11_chance_s26 (C : Cx p s m args meth c cX11_chance 3 wsL_law RX11 (some .long) D G ad) (n : Nat)   (v2 : Int32)   (st : St) (res : (Int64 × St))  (hf : fX11_chance_s26 n   v2 st = some res) : At p l e (rmK 1) s m args below meth c D G ad (MQJ D G ad below args s res) 3 st [(0, .ref (ad 130)), (2, .int v2)] 26 [] := by
  obtain ⟨hx, hb, hml, hown, hts, hr, hlk, hK, had, hSt⟩ := id C
  intro H locs ls hl hP hS
  unfold fX11_chance_s26 at hf
  refine lv_iload_n hx hb dX11_chance_26 rfl (lv_at hl 1 rfl) ?_
  refine lv_bipush (v := 25) hx hb dX11_chance_27 (by decide) ?_
  refine lv_icmp_ge (tgt := 41) hx hb dX11_chance_29 (by decide) (fun q => ?_) (fun q => ?_)
  · exact wX11_chance_s41 C n st res (it hf q) H locs ls (lv_sub hl [] rfl) hP hS
  · exact wX11_chance_s32 C n v2 st res (ie hf q) H locs ls (lv_sub hl [0, 1] rfl) hP hS
def fX11_chance_s20 (n : Nat)   (v1 : Int32) (v2 : Int32) (st : St) : Option (Int64 × St) := (fX11_findChances n 0 v1 st).bind (fun q => fX11_chance_s26 n v2 q.2)
set_option maxHeartbeats 4000000 in
set_option maxRecDepth 100000 in
theorem wX11_chance_s20 (C : Cx p s m args meth c cX11_chance 3 wsL_law RX11 (some .long) D G ad) (n : Nat)   (v1 : Int32) (v2 : Int32)   (st : St) (res : (Int64 × St))  (hf : fX11_chance_s20 n   v1 v2 st = some res) : At p l e (rmK 1) s m args below meth c D G ad (MQJ D G ad below args s res) 3 st [(0, .ref (ad 130)), (1, .int v1), (2, .int v2)] 20 [] := by
  obtain ⟨hx, hb, hml, hown, hts, hr, hlk, hK, had, hSt⟩ := id C
  intro H locs ls hl hP hS
  unfold fX11_chance_s20 at hf
  refine lv_aload_n hx hb dX11_chance_20 rfl (lv_at hl 0 rfl) ?_
  refine lv_iconst (v := 0) hx hb dX11_chance_21 (by decide) ?_
  refine lv_iload_n hx hb dX11_chance_22 rfl (lv_at hl 1 rfl) ?_
  obtain ⟨q, hq, hf⟩ := bd hf
  refine gcV_v (k := 0) (o := 130) (As := [.int 0, .int v1]) (rest := []) hx hb hml hown hts hK hSt hP hS hl.1 (goodV wm_41_0 wm_41_1 wm_41_2 wm_1_5 wm_41_3) okX11_findChances ct_130 rfl rfl (Nat.le_of_ble_eq_true rfl) (Nat.le_of_ble_eq_true rfl) rfl rfl (Nat.le_of_ble_eq_true rfl) dX11_chance_23 (kX11_findChances l D G ad had n  0 v1 st q hq) (fun H locs hP hS => ?_)
  exact wX11_chance_s26 C n v2 q.2 res hf H locs ls (lv_sub hl [0, 2] rfl) hP hS
def fX11_chance_s12 (n : Nat)   (v1 : Int32) (v2 : Int32) (st : St) : Option (Int64 × St) := if 0 ≤ v2 then fX11_chance_s20 n v1 v2 st else fX11_chance_s16 n st
set_option maxHeartbeats 4000000 in
set_option maxRecDepth 100000 in
theorem wX11_chance_s12 (C : Cx p s m args meth c cX11_chance 3 wsL_law RX11 (some .long) D G ad) (n : Nat)   (v1 : Int32) (v2 : Int32)   (st : St) (res : (Int64 × St))  (hf : fX11_chance_s12 n   v1 v2 st = some res) : At p l e (rmK 1) s m args below meth c D G ad (MQJ D G ad below args s res) 3 st [(0, .ref (ad 130)), (1, .int v1), (2, .int v2)] 12 [] := by
  obtain ⟨hx, hb, hml, hown, hts, hr, hlk, hK, had, hSt⟩ := id C
  intro H locs ls hl hP hS
  unfold fX11_chance_s12 at hf
  refine lv_iload_n hx hb dX11_chance_12 rfl (lv_at hl 2 rfl) ?_
  refine lv_if_ge (tgt := 20) hx hb dX11_chance_13 (by decide) (fun q => ?_) (fun q => ?_)
  · exact wX11_chance_s20 C n v1 v2 st res (it hf q) H locs ls (lv_sub hl [0, 1, 2] rfl) hP hS
  · exact wX11_chance_s16 C n st res (ie hf q) H locs ls (lv_sub hl [] rfl) hP hS
def fX11_chance_s9 (n : Nat)   (v1 : Int32) (v2 : Int32) (k0 : Int32) (st : St) : Option (Int64 × St) := if k0 = 0 then fX11_chance_s16 n st else fX11_chance_s12 n v1 v2 st
set_option maxHeartbeats 4000000 in
set_option maxRecDepth 100000 in
theorem wX11_chance_s9 (C : Cx p s m args meth c cX11_chance 3 wsL_law RX11 (some .long) D G ad) (n : Nat)   (v1 : Int32) (v2 : Int32) (k0 : Int32)   (st : St) (res : (Int64 × St))  (hf : fX11_chance_s9 n   v1 v2 k0 st = some res) : At p l e (rmK 1) s m args below meth c D G ad (MQJ D G ad below args s res) 3 st [(0, .ref (ad 130)), (1, .int v1), (2, .int v2)] 9 [.int k0] := by
  obtain ⟨hx, hb, hml, hown, hts, hr, hlk, hK, had, hSt⟩ := id C
  intro H locs ls hl hP hS
  unfold fX11_chance_s9 at hf
  refine lv_if_eq (tgt := 16) hx hb dX11_chance_9 (by decide) (fun q => ?_) (fun q => ?_)
  · exact wX11_chance_s16 C n st res (it hf q) H locs ls (lv_sub hl [] rfl) hP hS
  · exact wX11_chance_s12 C n v1 v2 st res (ie hf q) H locs ls (lv_sub hl [0, 1, 2] rfl) hP hS
def fX11_chance_s0 (n : Nat)   (v1 : Int32) (v2 : Int32) (st : St) : Option (Int64 × St) := (fX11_in n v1.toInt64 1 6 st).bind (fun q => fX11_chance_s9 n v1 v2 q.1 q.2)
set_option maxHeartbeats 4000000 in
set_option maxRecDepth 100000 in
theorem wX11_chance_s0 (C : Cx p s m args meth c cX11_chance 3 wsL_law RX11 (some .long) D G ad) (n : Nat)   (v1 : Int32) (v2 : Int32)   (st : St) (res : (Int64 × St))  (hf : fX11_chance_s0 n   v1 v2 st = some res) : At p l e (rmK 1) s m args below meth c D G ad (MQJ D G ad below args s res) 3 st [(0, .ref (ad 130)), (1, .int v1), (2, .int v2)] 0 [] := by
  obtain ⟨hx, hb, hml, hown, hts, hr, hlk, hK, had, hSt⟩ := id C
  intro H locs ls hl hP hS
  unfold fX11_chance_s0 at hf
  refine lv_iload_n hx hb dX11_chance_0 rfl (lv_at hl 1 rfl) ?_
  refine lv_i2l hx hb dX11_chance_1 rfl ?_
  refine lv_lconst (v := 1) hx hb dX11_chance_2 (by decide) ?_
  refine lv_ldc2 hx hb hown (hts _ wm_10_13) dX11_chance_3 ?_
  obtain ⟨q, hq, hf⟩ := bd hf
  refine gcS_i (k := 0) (As := [.long v1.toInt64, .long 1, .long 6]) (rest := []) hx hb hml hown hts hK hSt hP hS hl.1 (goodS wm_10_21 wm_10_22 wm_1_5 wm_10_23) okX11_in (Nat.le_of_ble_eq_true rfl) (Nat.le_of_ble_eq_true rfl) rfl rfl (Nat.le_of_ble_eq_true rfl) dX11_chance_6 (kX11_in l D G ad had n  v1.toInt64 1 6 st q hq) (fun H locs hP hS => ?_)
  exact wX11_chance_s9 C n v1 v2 q.1 q.2 res hf H locs ls (lv_sub hl [0, 1, 2] rfl) hP hS
def fX11_chance (n : Nat)  (a1 : Int32) (a2 : Int32) (st : St) : Option (Int64 × St) := fX11_chance_s0 n a1 a2 st
theorem okX11_chance : okY yX11_chance RX11 2 := by unfold okY; decide +kernel
end
set_option maxRecDepth 100000 in
theorem kX11_chance (l : Launch) (D : va_G) (G : G3) (ad : Nat → Nat) (had : Adr ad) (n : Nat)   (a1 : Int32) (a2 : Int32) (st : St) (res : (Int64 × St)) (hf : fX11_chance n  a1 a2 st = some res) {sz : Nat} : CtJ l yX11_chance (wsU yX11_chance cX11_chance 3 (some .long)) (rmK 1) D G ad sz [.ref (ad 130), .int a1, .int a2] st res := by
  refine Met.ofW (cc := cX11_chance) (maxL := 3) (ret := (some .long)) (by decide) rfl ?_
  intro p e s m args below meth c s₁ B hml hv
  obtain ⟨rfl, hsz, hP, hK, hSt⟩ := hv
  have hts := atoms_spec (ws := wsU yX11_chance cX11_chance 3 (some .long)) B.pre
  have C : Cx p s m _ meth c cX11_chance 3 wsL_law RX11 (some .long) D G ad := ⟨B.exec, B.bytes, hml, findClass_of_methodNamed B.named, fun w h => hts w (List.mem_cons_of_mem _ h), B.returns, B.notSynchronized, hK, had, hSt⟩
  subst hsz
  have hl := lv_entry ([.ref (ad 130), .int a1, .int a2]) (n := 3) (Nat.le_of_ble_eq_true rfl)
  rw [lg_entry_eq]
  generalize (lg_sl ([.ref (ad 130), .int a1, .int a2]) ++ List.replicate (3 - (lg_sl ([.ref (ad 130), .int a1, .int a2])).length) Slot.unset).toArray = ls at hl ⊢
  exact wX11_chance_s0 C n  a1 a2   st res hf s.heap [] ls (lv_sub hl [0, 1, 2] rfl) hP va_S.rf
section
variable {p : Program} {l : Launch} {e : Env} {s : State} {m : MethodId} {args : Array Value} {below : List Frame} {meth : Method} {c : Code} {D : va_G} {G : G3} {ad : Nat → Nat}
def fX11_hasLevels_s127 (n : Nat)    (st : St) : Option (Int32 × St) := some (0, st)
set_option maxHeartbeats 4000000 in
set_option maxRecDepth 100000 in
theorem wX11_hasLevels_s127 (C : Cx p s m args meth c cX11_hasLevels 3 wsL_law RX11 (some .boolean) D G ad) (n : Nat)      (st : St) (res : (Int32 × St))  (hf : fX11_hasLevels_s127 n    st = some res) : At p l e (rmK 1) s m args below meth c D G ad (MQI D G ad below args s res) 3 st [] 127 [] := by
  obtain ⟨hx, hb, hml, hown, hts, hr, hlk, hK, had, hSt⟩ := id C
  intro H locs ls hl hP hS
  unfold fX11_hasLevels_s127 at hf
  refine lv_iconst (v := 0) hx hb dX11_hasLevels_127 (by decide) ?_
  exact g_zret hx hb hr hlk hP hS (Or.inl rfl) dX11_hasLevels_128 hf
def fX11_hasLevels_s149 (n : Nat)    (st : St) : Option (Int32 × St) := some (1, st)
set_option maxHeartbeats 4000000 in
set_option maxRecDepth 100000 in
theorem wX11_hasLevels_s149 (C : Cx p s m args meth c cX11_hasLevels 3 wsL_law RX11 (some .boolean) D G ad) (n : Nat)      (st : St) (res : (Int32 × St))  (hf : fX11_hasLevels_s149 n    st = some res) : At p l e (rmK 1) s m args below meth c D G ad (MQI D G ad below args s res) 3 st [] 149 [] := by
  obtain ⟨hx, hb, hml, hown, hts, hr, hlk, hK, had, hSt⟩ := id C
  intro H locs ls hl hP hS
  unfold fX11_hasLevels_s149 at hf
  refine lv_iconst (v := 1) hx hb dX11_hasLevels_149 (by decide) ?_
  exact g_zret hx hb hr hlk hP hS (Or.inr rfl) dX11_hasLevels_150 hf
def fX11_hasLevels_s140 (n : Nat)    (st : St) : Option (Int32 × St) := (fX11_findChances n 1 (st.1 130 62) st).bind (fun q => fX11_hasLevels_s149 n q.2)
set_option maxHeartbeats 4000000 in
set_option maxRecDepth 100000 in
theorem wX11_hasLevels_s140 (C : Cx p s m args meth c cX11_hasLevels 3 wsL_law RX11 (some .boolean) D G ad) (n : Nat)      (st : St) (res : (Int32 × St))  (hf : fX11_hasLevels_s140 n    st = some res) : At p l e (rmK 1) s m args below meth c D G ad (MQI D G ad below args s res) 3 st [(0, .ref (ad 130))] 140 [] := by
  obtain ⟨hx, hb, hml, hown, hts, hr, hlk, hK, had, hSt⟩ := id C
  intro H locs ls hl hP hS
  unfold fX11_hasLevels_s140 at hf
  refine lv_aload_n hx hb dX11_hasLevels_140 rfl (lv_at hl 0 rfl) ?_
  refine lv_iconst (v := 1) hx hb dX11_hasLevels_141 (by decide) ?_
  refine lv_aload_n hx hb dX11_hasLevels_142 rfl (lv_at hl 0 rfl) ?_
  refine g_getI hx hb hts inlX11 hown hK hP 130 ct_130 rfl 62 (by decide) (hts _ wm_43_3) rfl dX11_hasLevels_143 ?_
  obtain ⟨q, hq, hf⟩ := bd hf
  refine gcV_v (k := 0) (o := 130) (As := [.int 1, .int (st.1 130 62)]) (rest := []) hx hb hml hown hts hK hSt hP hS hl.1 (goodV wm_41_0 wm_41_1 wm_41_2 wm_1_5 wm_41_3) okX11_findChances ct_130 rfl rfl (Nat.le_of_ble_eq_true rfl) (Nat.le_of_ble_eq_true rfl) rfl rfl (Nat.le_of_ble_eq_true rfl) dX11_hasLevels_146 (kX11_findChances l D G ad had n  1 (st.1 130 62) st q hq) (fun H locs hP hS => ?_)
  exact wX11_hasLevels_s149 C n q.2 res hf H locs ls (lv_sub hl [] rfl) hP hS
def fX11_hasLevels_s129 (n : Nat)    (st : St) : Option (Int32 × St) := (fX11_findChances n 0 ((st.1 130 61) + 1) st).bind (fun q => fX11_hasLevels_s140 n q.2)
set_option maxHeartbeats 4000000 in
set_option maxRecDepth 100000 in
theorem wX11_hasLevels_s129 (C : Cx p s m args meth c cX11_hasLevels 3 wsL_law RX11 (some .boolean) D G ad) (n : Nat)      (st : St) (res : (Int32 × St))  (hf : fX11_hasLevels_s129 n    st = some res) : At p l e (rmK 1) s m args below meth c D G ad (MQI D G ad below args s res) 3 st [(0, .ref (ad 130))] 129 [] := by
  obtain ⟨hx, hb, hml, hown, hts, hr, hlk, hK, had, hSt⟩ := id C
  intro H locs ls hl hP hS
  unfold fX11_hasLevels_s129 at hf
  refine lv_aload_n hx hb dX11_hasLevels_129 rfl (lv_at hl 0 rfl) ?_
  refine lv_iconst (v := 0) hx hb dX11_hasLevels_130 (by decide) ?_
  refine lv_aload_n hx hb dX11_hasLevels_131 rfl (lv_at hl 0 rfl) ?_
  refine g_getI hx hb hts inlX11 hown hK hP 130 ct_130 rfl 61 (by decide) (hts _ wm_43_2) rfl dX11_hasLevels_132 ?_
  refine lv_iconst (v := 1) hx hb dX11_hasLevels_135 (by decide) ?_
  refine lv_iadd hx hb dX11_hasLevels_136 ?_
  obtain ⟨q, hq, hf⟩ := bd hf
  refine gcV_v (k := 0) (o := 130) (As := [.int 0, .int ((st.1 130 61) + 1)]) (rest := []) hx hb hml hown hts hK hSt hP hS hl.1 (goodV wm_41_0 wm_41_1 wm_41_2 wm_1_5 wm_41_3) okX11_findChances ct_130 rfl rfl (Nat.le_of_ble_eq_true rfl) (Nat.le_of_ble_eq_true rfl) rfl rfl (Nat.le_of_ble_eq_true rfl) dX11_hasLevels_137 (kX11_findChances l D G ad had n  0 ((st.1 130 61) + 1) st q hq) (fun H locs hP hS => ?_)
  exact wX11_hasLevels_s140 C n q.2 res hf H locs ls (lv_sub hl [0] rfl) hP hS
def fX11_hasLevels_s124 (n : Nat)   (k0 : Int32) (st : St) : Option (Int32 × St) := if k0 = 0 then fX11_hasLevels_s127 n st else fX11_hasLevels_s129 n st
set_option maxHeartbeats 4000000 in
set_option maxRecDepth 100000 in
theorem wX11_hasLevels_s124 (C : Cx p s m args meth c cX11_hasLevels 3 wsL_law RX11 (some .boolean) D G ad) (n : Nat)   (k0 : Int32)   (st : St) (res : (Int32 × St))  (hf : fX11_hasLevels_s124 n   k0 st = some res) : At p l e (rmK 1) s m args below meth c D G ad (MQI D G ad below args s res) 3 st [(0, .ref (ad 130))] 124 [.int k0] := by
  obtain ⟨hx, hb, hml, hown, hts, hr, hlk, hK, had, hSt⟩ := id C
  intro H locs ls hl hP hS
  unfold fX11_hasLevels_s124 at hf
  refine lv_if_ne (tgt := 129) hx hb dX11_hasLevels_124 (by decide) (fun q => ?_) (fun q => ?_)
  · exact wX11_hasLevels_s129 C n st res (ie hf q) H locs ls (lv_sub hl [0] rfl) hP hS
  · exact wX11_hasLevels_s127 C n st res (it hf q) H locs ls (lv_sub hl [] rfl) hP hS
def fX11_hasLevels_s113 (n : Nat)    (st : St) : Option (Int32 × St) := (fX11_in n (st.2 130 65) 1 99 st).bind (fun q => fX11_hasLevels_s124 n q.1 q.2)
set_option maxHeartbeats 4000000 in
set_option maxRecDepth 100000 in
theorem wX11_hasLevels_s113 (C : Cx p s m args meth c cX11_hasLevels 3 wsL_law RX11 (some .boolean) D G ad) (n : Nat)      (st : St) (res : (Int32 × St))  (hf : fX11_hasLevels_s113 n    st = some res) : At p l e (rmK 1) s m args below meth c D G ad (MQI D G ad below args s res) 3 st [(0, .ref (ad 130))] 113 [] := by
  obtain ⟨hx, hb, hml, hown, hts, hr, hlk, hK, had, hSt⟩ := id C
  intro H locs ls hl hP hS
  unfold fX11_hasLevels_s113 at hf
  refine lv_aload_n hx hb dX11_hasLevels_113 rfl (lv_at hl 0 rfl) ?_
  refine g_getJ hx hb hts inlX11 hown hK hP 130 ct_130 rfl 65 (by decide) (hts _ wm_43_6) rfl dX11_hasLevels_114 ?_
  refine lv_lconst (v := 1) hx hb dX11_hasLevels_117 (by decide) ?_
  refine lv_ldc2 hx hb hown (hts _ wm_11_13) dX11_hasLevels_118 ?_
  obtain ⟨q, hq, hf⟩ := bd hf
  refine gcS_i (k := 0) (As := [.long (st.2 130 65), .long 1, .long 99]) (rest := []) hx hb hml hown hts hK hSt hP hS hl.1 (goodS wm_10_21 wm_10_22 wm_1_5 wm_10_23) okX11_in (Nat.le_of_ble_eq_true rfl) (Nat.le_of_ble_eq_true rfl) rfl rfl (Nat.le_of_ble_eq_true rfl) dX11_hasLevels_121 (kX11_in l D G ad had n  (st.2 130 65) 1 99 st q hq) (fun H locs hP hS => ?_)
  exact wX11_hasLevels_s124 C n q.1 q.2 res hf H locs ls (lv_sub hl [0] rfl) hP hS
def fX11_hasLevels_s110 (n : Nat)   (k0 : Int32) (st : St) : Option (Int32 × St) := if k0 = 0 then fX11_hasLevels_s127 n st else fX11_hasLevels_s113 n st
set_option maxHeartbeats 4000000 in
set_option maxRecDepth 100000 in
theorem wX11_hasLevels_s110 (C : Cx p s m args meth c cX11_hasLevels 3 wsL_law RX11 (some .boolean) D G ad) (n : Nat)   (k0 : Int32)   (st : St) (res : (Int32 × St))  (hf : fX11_hasLevels_s110 n   k0 st = some res) : At p l e (rmK 1) s m args below meth c D G ad (MQI D G ad below args s res) 3 st [(0, .ref (ad 130))] 110 [.int k0] := by
  obtain ⟨hx, hb, hml, hown, hts, hr, hlk, hK, had, hSt⟩ := id C
  intro H locs ls hl hP hS
  unfold fX11_hasLevels_s110 at hf
  refine lv_if_eq (tgt := 127) hx hb dX11_hasLevels_110 (by decide) (fun q => ?_) (fun q => ?_)
  · exact wX11_hasLevels_s127 C n st res (it hf q) H locs ls (lv_sub hl [] rfl) hP hS
  · exact wX11_hasLevels_s113 C n st res (ie hf q) H locs ls (lv_sub hl [0] rfl) hP hS
def fX11_hasLevels_s99 (n : Nat)    (st : St) : Option (Int32 × St) := (fX11_in n (st.2 130 64) 1 9 st).bind (fun q => fX11_hasLevels_s110 n q.1 q.2)
set_option maxHeartbeats 4000000 in
set_option maxRecDepth 100000 in
theorem wX11_hasLevels_s99 (C : Cx p s m args meth c cX11_hasLevels 3 wsL_law RX11 (some .boolean) D G ad) (n : Nat)      (st : St) (res : (Int32 × St))  (hf : fX11_hasLevels_s99 n    st = some res) : At p l e (rmK 1) s m args below meth c D G ad (MQI D G ad below args s res) 3 st [(0, .ref (ad 130))] 99 [] := by
  obtain ⟨hx, hb, hml, hown, hts, hr, hlk, hK, had, hSt⟩ := id C
  intro H locs ls hl hP hS
  unfold fX11_hasLevels_s99 at hf
  refine lv_aload_n hx hb dX11_hasLevels_99 rfl (lv_at hl 0 rfl) ?_
  refine g_getJ hx hb hts inlX11 hown hK hP 130 ct_130 rfl 64 (by decide) (hts _ wm_43_5) rfl dX11_hasLevels_100 ?_
  refine lv_lconst (v := 1) hx hb dX11_hasLevels_103 (by decide) ?_
  refine lv_ldc2 hx hb hown (hts _ wm_43_7) dX11_hasLevels_104 ?_
  obtain ⟨q, hq, hf⟩ := bd hf
  refine gcS_i (k := 0) (As := [.long (st.2 130 64), .long 1, .long 9]) (rest := []) hx hb hml hown hts hK hSt hP hS hl.1 (goodS wm_10_21 wm_10_22 wm_1_5 wm_10_23) okX11_in (Nat.le_of_ble_eq_true rfl) (Nat.le_of_ble_eq_true rfl) rfl rfl (Nat.le_of_ble_eq_true rfl) dX11_hasLevels_107 (kX11_in l D G ad had n  (st.2 130 64) 1 9 st q hq) (fun H locs hP hS => ?_)
  exact wX11_hasLevels_s110 C n q.1 q.2 res hf H locs ls (lv_sub hl [0] rfl) hP hS
def fX11_hasLevels_s96 (n : Nat)   (k0 : Int32) (st : St) : Option (Int32 × St) := if k0 = 0 then fX11_hasLevels_s127 n st else fX11_hasLevels_s99 n st
set_option maxHeartbeats 4000000 in
set_option maxRecDepth 100000 in
theorem wX11_hasLevels_s96 (C : Cx p s m args meth c cX11_hasLevels 3 wsL_law RX11 (some .boolean) D G ad) (n : Nat)   (k0 : Int32)   (st : St) (res : (Int32 × St))  (hf : fX11_hasLevels_s96 n   k0 st = some res) : At p l e (rmK 1) s m args below meth c D G ad (MQI D G ad below args s res) 3 st [(0, .ref (ad 130))] 96 [.int k0] := by
  obtain ⟨hx, hb, hml, hown, hts, hr, hlk, hK, had, hSt⟩ := id C
  intro H locs ls hl hP hS
  unfold fX11_hasLevels_s96 at hf
  refine lv_if_eq (tgt := 127) hx hb dX11_hasLevels_96 (by decide) (fun q => ?_) (fun q => ?_)
  · exact wX11_hasLevels_s127 C n st res (it hf q) H locs ls (lv_sub hl [] rfl) hP hS
  · exact wX11_hasLevels_s99 C n st res (ie hf q) H locs ls (lv_sub hl [0] rfl) hP hS
def fX11_hasLevels_s85 (n : Nat)    (st : St) : Option (Int32 × St) := (fX11_in n (st.2 130 63) 1 9 st).bind (fun q => fX11_hasLevels_s96 n q.1 q.2)
set_option maxHeartbeats 4000000 in
set_option maxRecDepth 100000 in
theorem wX11_hasLevels_s85 (C : Cx p s m args meth c cX11_hasLevels 3 wsL_law RX11 (some .boolean) D G ad) (n : Nat)      (st : St) (res : (Int32 × St))  (hf : fX11_hasLevels_s85 n    st = some res) : At p l e (rmK 1) s m args below meth c D G ad (MQI D G ad below args s res) 3 st [(0, .ref (ad 130))] 85 [] := by
  obtain ⟨hx, hb, hml, hown, hts, hr, hlk, hK, had, hSt⟩ := id C
  intro H locs ls hl hP hS
  unfold fX11_hasLevels_s85 at hf
  refine lv_aload_n hx hb dX11_hasLevels_85 rfl (lv_at hl 0 rfl) ?_
  refine g_getJ hx hb hts inlX11 hown hK hP 130 ct_130 rfl 63 (by decide) (hts _ wm_43_4) rfl dX11_hasLevels_86 ?_
  refine lv_lconst (v := 1) hx hb dX11_hasLevels_89 (by decide) ?_
  refine lv_ldc2 hx hb hown (hts _ wm_43_7) dX11_hasLevels_90 ?_
  obtain ⟨q, hq, hf⟩ := bd hf
  refine gcS_i (k := 0) (As := [.long (st.2 130 63), .long 1, .long 9]) (rest := []) hx hb hml hown hts hK hSt hP hS hl.1 (goodS wm_10_21 wm_10_22 wm_1_5 wm_10_23) okX11_in (Nat.le_of_ble_eq_true rfl) (Nat.le_of_ble_eq_true rfl) rfl rfl (Nat.le_of_ble_eq_true rfl) dX11_hasLevels_93 (kX11_in l D G ad had n  (st.2 130 63) 1 9 st q hq) (fun H locs hP hS => ?_)
  exact wX11_hasLevels_s96 C n q.1 q.2 res hf H locs ls (lv_sub hl [0] rfl) hP hS
def fX11_hasLevels_s82 (n : Nat)   (k0 : Int32) (st : St) : Option (Int32 × St) := if k0 = 0 then fX11_hasLevels_s127 n st else fX11_hasLevels_s85 n st
set_option maxHeartbeats 4000000 in
set_option maxRecDepth 100000 in
theorem wX11_hasLevels_s82 (C : Cx p s m args meth c cX11_hasLevels 3 wsL_law RX11 (some .boolean) D G ad) (n : Nat)   (k0 : Int32)   (st : St) (res : (Int32 × St))  (hf : fX11_hasLevels_s82 n   k0 st = some res) : At p l e (rmK 1) s m args below meth c D G ad (MQI D G ad below args s res) 3 st [(0, .ref (ad 130))] 82 [.int k0] := by
  obtain ⟨hx, hb, hml, hown, hts, hr, hlk, hK, had, hSt⟩ := id C
  intro H locs ls hl hP hS
  unfold fX11_hasLevels_s82 at hf
  refine lv_if_eq (tgt := 127) hx hb dX11_hasLevels_82 (by decide) (fun q => ?_) (fun q => ?_)
  · exact wX11_hasLevels_s127 C n st res (it hf q) H locs ls (lv_sub hl [] rfl) hP hS
  · exact wX11_hasLevels_s85 C n st res (ie hf q) H locs ls (lv_sub hl [0] rfl) hP hS
def fX11_hasLevels_s70 (n : Nat)    (st : St) : Option (Int32 × St) := (fX11_in n ((st.1 130 62).toInt64) 1 3 st).bind (fun q => fX11_hasLevels_s82 n q.1 q.2)
set_option maxHeartbeats 4000000 in
set_option maxRecDepth 100000 in
theorem wX11_hasLevels_s70 (C : Cx p s m args meth c cX11_hasLevels 3 wsL_law RX11 (some .boolean) D G ad) (n : Nat)      (st : St) (res : (Int32 × St))  (hf : fX11_hasLevels_s70 n    st = some res) : At p l e (rmK 1) s m args below meth c D G ad (MQI D G ad below args s res) 3 st [(0, .ref (ad 130))] 70 [] := by
  obtain ⟨hx, hb, hml, hown, hts, hr, hlk, hK, had, hSt⟩ := id C
  intro H locs ls hl hP hS
  unfold fX11_hasLevels_s70 at hf
  refine lv_aload_n hx hb dX11_hasLevels_70 rfl (lv_at hl 0 rfl) ?_
  refine g_getI hx hb hts inlX11 hown hK hP 130 ct_130 rfl 62 (by decide) (hts _ wm_43_3) rfl dX11_hasLevels_71 ?_
  refine lv_i2l hx hb dX11_hasLevels_74 rfl ?_
  refine lv_lconst (v := 1) hx hb dX11_hasLevels_75 (by decide) ?_
  refine lv_ldc2 hx hb hown (hts _ wm_10_12) dX11_hasLevels_76 ?_
  obtain ⟨q, hq, hf⟩ := bd hf
  refine gcS_i (k := 0) (As := [.long ((st.1 130 62).toInt64), .long 1, .long 3]) (rest := []) hx hb hml hown hts hK hSt hP hS hl.1 (goodS wm_10_21 wm_10_22 wm_1_5 wm_10_23) okX11_in (Nat.le_of_ble_eq_true rfl) (Nat.le_of_ble_eq_true rfl) rfl rfl (Nat.le_of_ble_eq_true rfl) dX11_hasLevels_79 (kX11_in l D G ad had n  ((st.1 130 62).toInt64) 1 3 st q hq) (fun H locs hP hS => ?_)
  exact wX11_hasLevels_s82 C n q.1 q.2 res hf H locs ls (lv_sub hl [0] rfl) hP hS
def fX11_hasLevels_s67 (n : Nat)   (k0 : Int32) (st : St) : Option (Int32 × St) := if k0 = 0 then fX11_hasLevels_s127 n st else fX11_hasLevels_s70 n st
set_option maxHeartbeats 4000000 in
set_option maxRecDepth 100000 in
theorem wX11_hasLevels_s67 (C : Cx p s m args meth c cX11_hasLevels 3 wsL_law RX11 (some .boolean) D G ad) (n : Nat)   (k0 : Int32)   (st : St) (res : (Int32 × St))  (hf : fX11_hasLevels_s67 n   k0 st = some res) : At p l e (rmK 1) s m args below meth c D G ad (MQI D G ad below args s res) 3 st [(0, .ref (ad 130))] 67 [.int k0] := by
  obtain ⟨hx, hb, hml, hown, hts, hr, hlk, hK, had, hSt⟩ := id C
  intro H locs ls hl hP hS
  unfold fX11_hasLevels_s67 at hf
  refine lv_if_eq (tgt := 127) hx hb dX11_hasLevels_67 (by decide) (fun q => ?_) (fun q => ?_)
  · exact wX11_hasLevels_s127 C n st res (it hf q) H locs ls (lv_sub hl [] rfl) hP hS
  · exact wX11_hasLevels_s70 C n st res (ie hf q) H locs ls (lv_sub hl [0] rfl) hP hS
def fX11_hasLevels_s55 (n : Nat)    (st : St) : Option (Int32 × St) := (fX11_in n ((st.1 130 61).toInt64) 1 3 st).bind (fun q => fX11_hasLevels_s67 n q.1 q.2)
set_option maxHeartbeats 4000000 in
set_option maxRecDepth 100000 in
theorem wX11_hasLevels_s55 (C : Cx p s m args meth c cX11_hasLevels 3 wsL_law RX11 (some .boolean) D G ad) (n : Nat)      (st : St) (res : (Int32 × St))  (hf : fX11_hasLevels_s55 n    st = some res) : At p l e (rmK 1) s m args below meth c D G ad (MQI D G ad below args s res) 3 st [(0, .ref (ad 130))] 55 [] := by
  obtain ⟨hx, hb, hml, hown, hts, hr, hlk, hK, had, hSt⟩ := id C
  intro H locs ls hl hP hS
  unfold fX11_hasLevels_s55 at hf
  refine lv_aload_n hx hb dX11_hasLevels_55 rfl (lv_at hl 0 rfl) ?_
  refine g_getI hx hb hts inlX11 hown hK hP 130 ct_130 rfl 61 (by decide) (hts _ wm_43_2) rfl dX11_hasLevels_56 ?_
  refine lv_i2l hx hb dX11_hasLevels_59 rfl ?_
  refine lv_lconst (v := 1) hx hb dX11_hasLevels_60 (by decide) ?_
  refine lv_ldc2 hx hb hown (hts _ wm_10_12) dX11_hasLevels_61 ?_
  obtain ⟨q, hq, hf⟩ := bd hf
  refine gcS_i (k := 0) (As := [.long ((st.1 130 61).toInt64), .long 1, .long 3]) (rest := []) hx hb hml hown hts hK hSt hP hS hl.1 (goodS wm_10_21 wm_10_22 wm_1_5 wm_10_23) okX11_in (Nat.le_of_ble_eq_true rfl) (Nat.le_of_ble_eq_true rfl) rfl rfl (Nat.le_of_ble_eq_true rfl) dX11_hasLevels_64 (kX11_in l D G ad had n  ((st.1 130 61).toInt64) 1 3 st q hq) (fun H locs hP hS => ?_)
  exact wX11_hasLevels_s67 C n q.1 q.2 res hf H locs ls (lv_sub hl [0] rfl) hP hS
def fX11_hasLevels_s51 (n : Nat)   (v2 : Int32) (st : St) : Option (Int32 × St) := if v2 < 0 then fX11_hasLevels_s127 n st else fX11_hasLevels_s55 n st
set_option maxHeartbeats 4000000 in
set_option maxRecDepth 100000 in
theorem wX11_hasLevels_s51 (C : Cx p s m args meth c cX11_hasLevels 3 wsL_law RX11 (some .boolean) D G ad) (n : Nat)   (v2 : Int32)   (st : St) (res : (Int32 × St))  (hf : fX11_hasLevels_s51 n   v2 st = some res) : At p l e (rmK 1) s m args below meth c D G ad (MQI D G ad below args s res) 3 st [(0, .ref (ad 130)), (2, .int v2)] 51 [] := by
  obtain ⟨hx, hb, hml, hown, hts, hr, hlk, hK, had, hSt⟩ := id C
  intro H locs ls hl hP hS
  unfold fX11_hasLevels_s51 at hf
  refine lv_iload_n hx hb dX11_hasLevels_51 rfl (lv_at hl 1 rfl) ?_
  refine lv_if_lt (tgt := 127) hx hb dX11_hasLevels_52 (by decide) (fun q => ?_) (fun q => ?_)
  · exact wX11_hasLevels_s127 C n st res (it hf q) H locs ls (lv_sub hl [] rfl) hP hS
  · exact wX11_hasLevels_s55 C n st res (ie hf q) H locs ls (lv_sub hl [0] rfl) hP hS
def fX11_hasLevels_s47 (n : Nat)   (v1 : Int32) (v2 : Int32) (st : St) : Option (Int32 × St) := if v1 < 0 then fX11_hasLevels_s127 n st else fX11_hasLevels_s51 n v2 st
set_option maxHeartbeats 4000000 in
set_option maxRecDepth 100000 in
theorem wX11_hasLevels_s47 (C : Cx p s m args meth c cX11_hasLevels 3 wsL_law RX11 (some .boolean) D G ad) (n : Nat)   (v1 : Int32) (v2 : Int32)   (st : St) (res : (Int32 × St))  (hf : fX11_hasLevels_s47 n   v1 v2 st = some res) : At p l e (rmK 1) s m args below meth c D G ad (MQI D G ad below args s res) 3 st [(0, .ref (ad 130)), (1, .int v1), (2, .int v2)] 47 [] := by
  obtain ⟨hx, hb, hml, hown, hts, hr, hlk, hK, had, hSt⟩ := id C
  intro H locs ls hl hP hS
  unfold fX11_hasLevels_s47 at hf
  refine lv_iload_n hx hb dX11_hasLevels_47 rfl (lv_at hl 1 rfl) ?_
  refine lv_if_lt (tgt := 127) hx hb dX11_hasLevels_48 (by decide) (fun q => ?_) (fun q => ?_)
  · exact wX11_hasLevels_s127 C n st res (it hf q) H locs ls (lv_sub hl [] rfl) hP hS
  · exact wX11_hasLevels_s51 C n v2 st res (ie hf q) H locs ls (lv_sub hl [0, 2] rfl) hP hS
def fX11_hasLevels_s38 (n : Nat)   (v1 : Int32) (v2 : Int32) (st : St) : Option (Int32 × St) := fX11_hasLevels_s47 n v1 v2 (setJ st 130 65 ((v2 - v2 / 100 * 100).toInt64))
set_option maxHeartbeats 4000000 in
set_option maxRecDepth 100000 in
theorem wX11_hasLevels_s38 (C : Cx p s m args meth c cX11_hasLevels 3 wsL_law RX11 (some .boolean) D G ad) (n : Nat)   (v1 : Int32) (v2 : Int32)   (st : St) (res : (Int32 × St))  (hf : fX11_hasLevels_s38 n   v1 v2 st = some res) : At p l e (rmK 1) s m args below meth c D G ad (MQI D G ad below args s res) 3 st [(0, .ref (ad 130)), (1, .int v1), (2, .int v2)] 38 [] := by
  obtain ⟨hx, hb, hml, hown, hts, hr, hlk, hK, had, hSt⟩ := id C
  intro H locs ls hl hP hS
  unfold fX11_hasLevels_s38 at hf
  refine lv_aload_n hx hb dX11_hasLevels_38 rfl (lv_at hl 0 rfl) ?_
  refine lv_iload_n hx hb dX11_hasLevels_39 rfl (lv_at hl 2 rfl) ?_
  refine lv_bipush (v := 100) hx hb dX11_hasLevels_40 (by decide) ?_
  refine lv_irem hx hb dX11_hasLevels_42 (by decide) ?_
  refine lv_i2l hx hb dX11_hasLevels_43 rfl ?_
  refine g_putJ hx hb hts inlX11 tyX11_ok nmX11 hown hK had hP hS 130 ct_130 rfl 65 (by decide) (hts _ wm_43_6) rfl rfl rfl dX11_hasLevels_44 (fun H locs hP hS => ?_)
  exact wX11_hasLevels_s47 C n v1 v2 (setJ st 130 65 ((v2 - v2 / 100 * 100).toInt64)) res hf H locs ls (lv_sub hl [0, 1, 2] rfl) hP hS
def fX11_hasLevels_s26 (n : Nat)   (v1 : Int32) (v2 : Int32) (st : St) : Option (Int32 × St) := fX11_hasLevels_s38 n v1 v2 (setJ st 130 64 (((v2 / 100) - (v2 / 100) / 10 * 10).toInt64))
set_option maxHeartbeats 4000000 in
set_option maxRecDepth 100000 in
theorem wX11_hasLevels_s26 (C : Cx p s m args meth c cX11_hasLevels 3 wsL_law RX11 (some .boolean) D G ad) (n : Nat)   (v1 : Int32) (v2 : Int32)   (st : St) (res : (Int32 × St))  (hf : fX11_hasLevels_s26 n   v1 v2 st = some res) : At p l e (rmK 1) s m args below meth c D G ad (MQI D G ad below args s res) 3 st [(0, .ref (ad 130)), (1, .int v1), (2, .int v2)] 26 [] := by
  obtain ⟨hx, hb, hml, hown, hts, hr, hlk, hK, had, hSt⟩ := id C
  intro H locs ls hl hP hS
  unfold fX11_hasLevels_s26 at hf
  refine lv_aload_n hx hb dX11_hasLevels_26 rfl (lv_at hl 0 rfl) ?_
  refine lv_iload_n hx hb dX11_hasLevels_27 rfl (lv_at hl 2 rfl) ?_
  refine lv_bipush (v := 100) hx hb dX11_hasLevels_28 (by decide) ?_
  refine lv_idiv hx hb dX11_hasLevels_30 (by decide) ?_
  refine lv_bipush (v := 10) hx hb dX11_hasLevels_31 (by decide) ?_
  refine lv_irem hx hb dX11_hasLevels_33 (by decide) ?_
  refine lv_i2l hx hb dX11_hasLevels_34 rfl ?_
  refine g_putJ hx hb hts inlX11 tyX11_ok nmX11 hown hK had hP hS 130 ct_130 rfl 64 (by decide) (hts _ wm_43_5) rfl rfl rfl dX11_hasLevels_35 (fun H locs hP hS => ?_)
  exact wX11_hasLevels_s38 C n v1 v2 (setJ st 130 64 (((v2 / 100) - (v2 / 100) / 10 * 10).toInt64)) res hf H locs ls (lv_sub hl [0, 1, 2] rfl) hP hS
def fX11_hasLevels_s16 (n : Nat)   (v1 : Int32) (v2 : Int32) (st : St) : Option (Int32 × St) := fX11_hasLevels_s26 n v1 v2 (setJ st 130 63 ((v2 / 1000).toInt64))
set_option maxHeartbeats 4000000 in
set_option maxRecDepth 100000 in
theorem wX11_hasLevels_s16 (C : Cx p s m args meth c cX11_hasLevels 3 wsL_law RX11 (some .boolean) D G ad) (n : Nat)   (v1 : Int32) (v2 : Int32)   (st : St) (res : (Int32 × St))  (hf : fX11_hasLevels_s16 n   v1 v2 st = some res) : At p l e (rmK 1) s m args below meth c D G ad (MQI D G ad below args s res) 3 st [(0, .ref (ad 130)), (1, .int v1), (2, .int v2)] 16 [] := by
  obtain ⟨hx, hb, hml, hown, hts, hr, hlk, hK, had, hSt⟩ := id C
  intro H locs ls hl hP hS
  unfold fX11_hasLevels_s16 at hf
  refine lv_aload_n hx hb dX11_hasLevels_16 rfl (lv_at hl 0 rfl) ?_
  refine lv_iload_n hx hb dX11_hasLevels_17 rfl (lv_at hl 2 rfl) ?_
  refine lv_sipush (v := 1000) hx hb dX11_hasLevels_18 (by decide) ?_
  refine lv_idiv hx hb dX11_hasLevels_21 (by decide) ?_
  refine lv_i2l hx hb dX11_hasLevels_22 rfl ?_
  refine g_putJ hx hb hts inlX11 tyX11_ok nmX11 hown hK had hP hS 130 ct_130 rfl 63 (by decide) (hts _ wm_43_4) rfl rfl rfl dX11_hasLevels_23 (fun H locs hP hS => ?_)
  exact wX11_hasLevels_s26 C n v1 v2 (setJ st 130 63 ((v2 / 1000).toInt64)) res hf H locs ls (lv_sub hl [0, 1, 2] rfl) hP hS
def fX11_hasLevels_s8 (n : Nat)   (v1 : Int32) (v2 : Int32) (st : St) : Option (Int32 × St) := fX11_hasLevels_s16 n v1 v2 (setI st 130 62 (v1 - v1 / 10 * 10))
set_option maxHeartbeats 4000000 in
set_option maxRecDepth 100000 in
theorem wX11_hasLevels_s8 (C : Cx p s m args meth c cX11_hasLevels 3 wsL_law RX11 (some .boolean) D G ad) (n : Nat)   (v1 : Int32) (v2 : Int32)   (st : St) (res : (Int32 × St))  (hf : fX11_hasLevels_s8 n   v1 v2 st = some res) : At p l e (rmK 1) s m args below meth c D G ad (MQI D G ad below args s res) 3 st [(0, .ref (ad 130)), (1, .int v1), (2, .int v2)] 8 [] := by
  obtain ⟨hx, hb, hml, hown, hts, hr, hlk, hK, had, hSt⟩ := id C
  intro H locs ls hl hP hS
  unfold fX11_hasLevels_s8 at hf
  refine lv_aload_n hx hb dX11_hasLevels_8 rfl (lv_at hl 0 rfl) ?_
  refine lv_iload_n hx hb dX11_hasLevels_9 rfl (lv_at hl 1 rfl) ?_
  refine lv_bipush (v := 10) hx hb dX11_hasLevels_10 (by decide) ?_
  refine lv_irem hx hb dX11_hasLevels_12 (by decide) ?_
  refine g_putI hx hb hts inlX11 tyX11_ok nmX11 hown hK had hP hS 130 ct_130 rfl 62 (by decide) (hts _ wm_43_3) rfl rfl rfl rfl rfl dX11_hasLevels_13 (fun H locs hP hS => ?_)
  exact wX11_hasLevels_s16 C n v1 v2 (setI st 130 62 (v1 - v1 / 10 * 10)) res hf H locs ls (lv_sub hl [0, 1, 2] rfl) hP hS
def fX11_hasLevels_s0 (n : Nat)   (v1 : Int32) (v2 : Int32) (st : St) : Option (Int32 × St) := fX11_hasLevels_s8 n v1 v2 (setI st 130 61 (v1 / 10))
set_option maxHeartbeats 4000000 in
set_option maxRecDepth 100000 in
theorem wX11_hasLevels_s0 (C : Cx p s m args meth c cX11_hasLevels 3 wsL_law RX11 (some .boolean) D G ad) (n : Nat)   (v1 : Int32) (v2 : Int32)   (st : St) (res : (Int32 × St))  (hf : fX11_hasLevels_s0 n   v1 v2 st = some res) : At p l e (rmK 1) s m args below meth c D G ad (MQI D G ad below args s res) 3 st [(0, .ref (ad 130)), (1, .int v1), (2, .int v2)] 0 [] := by
  obtain ⟨hx, hb, hml, hown, hts, hr, hlk, hK, had, hSt⟩ := id C
  intro H locs ls hl hP hS
  unfold fX11_hasLevels_s0 at hf
  refine lv_aload_n hx hb dX11_hasLevels_0 rfl (lv_at hl 0 rfl) ?_
  refine lv_iload_n hx hb dX11_hasLevels_1 rfl (lv_at hl 1 rfl) ?_
  refine lv_bipush (v := 10) hx hb dX11_hasLevels_2 (by decide) ?_
  refine lv_idiv hx hb dX11_hasLevels_4 (by decide) ?_
  refine g_putI hx hb hts inlX11 tyX11_ok nmX11 hown hK had hP hS 130 ct_130 rfl 61 (by decide) (hts _ wm_43_2) rfl rfl rfl rfl rfl dX11_hasLevels_5 (fun H locs hP hS => ?_)
  exact wX11_hasLevels_s8 C n v1 v2 (setI st 130 61 (v1 / 10)) res hf H locs ls (lv_sub hl [0, 1, 2] rfl) hP hS
def fX11_hasLevels (n : Nat)  (a1 : Int32) (a2 : Int32) (st : St) : Option (Int32 × St) := fX11_hasLevels_s0 n a1 a2 st
theorem okX11_hasLevels : okY yX11_hasLevels RX11 2 := by unfold okY; decide +kernel
end
set_option maxRecDepth 100000 in
theorem kX11_hasLevels (l : Launch) (D : va_G) (G : G3) (ad : Nat → Nat) (had : Adr ad) (n : Nat)   (a1 : Int32) (a2 : Int32) (st : St) (res : (Int32 × St)) (hf : fX11_hasLevels n  a1 a2 st = some res) {sz : Nat} : CtI l yX11_hasLevels (wsU yX11_hasLevels cX11_hasLevels 3 (some .boolean)) (rmK 1) D G ad sz [.ref (ad 130), .int a1, .int a2] st res := by
  refine Met.ofW (cc := cX11_hasLevels) (maxL := 3) (ret := (some .boolean)) (by decide) rfl ?_
  intro p e s m args below meth c s₁ B hml hv
  obtain ⟨rfl, hsz, hP, hK, hSt⟩ := hv
  have hts := atoms_spec (ws := wsU yX11_hasLevels cX11_hasLevels 3 (some .boolean)) B.pre
  have C : Cx p s m _ meth c cX11_hasLevels 3 wsL_law RX11 (some .boolean) D G ad := ⟨B.exec, B.bytes, hml, findClass_of_methodNamed B.named, fun w h => hts w (List.mem_cons_of_mem _ h), B.returns, B.notSynchronized, hK, had, hSt⟩
  subst hsz
  have hl := lv_entry ([.ref (ad 130), .int a1, .int a2]) (n := 3) (Nat.le_of_ble_eq_true rfl)
  rw [lg_entry_eq]
  generalize (lg_sl ([.ref (ad 130), .int a1, .int a2]) ++ List.replicate (3 - (lg_sl ([.ref (ad 130), .int a1, .int a2])).length) Slot.unset).toArray = ls at hl ⊢
  exact wX11_hasLevels_s0 C n  a1 a2   st res hf s.heap [] ls (lv_sub hl [0, 1, 2] rfl) hP va_S.rf
section
variable {p : Program} {l : Launch} {e : Env} {s : State} {m : MethodId} {args : Array Value} {below : List Frame} {meth : Method} {c : Code} {D : va_G} {G : G3} {ad : Nat → Nat}
def fX11_allNear_s25 (n : Nat)   (v1 : Int64) (st : St) : Option (Int64 × St) := some (v1, st)
set_option maxHeartbeats 4000000 in
set_option maxRecDepth 100000 in
theorem wX11_allNear_s25 (C : Cx p s m args meth c cX11_allNear 4 wsL_law RX11 (some .long) D G ad) (n : Nat)   (v1 : Int64)   (st : St) (res : (Int64 × St))  (hf : fX11_allNear_s25 n   v1 st = some res) : At p l e (rmK 0) s m args below meth c D G ad (MQJ D G ad below args s res) 4 st [(1, .long v1)] 25 [] := by
  obtain ⟨hx, hb, hml, hown, hts, hr, hlk, hK, had, hSt⟩ := id C
  intro H locs ls hl hP hS
  unfold fX11_allNear_s25 at hf
  refine lv_lload_n hx hb dX11_allNear_25 rfl (lv_at hl 0 rfl) ?_
  exact g_lret hx hb hr hlk hP hS dX11_allNear_26 hf
def fX11_allNear_s10 (n : Nat) (K4 : Int64 → Int32 → St → Option (Int64 × St))  (v1 : Int64) (v3 : Int32) (st : St) : Option (Int64 × St) := if inb v3 50 = true then (K4 (v1 + (st.2 166 v3.toNatClampNeg)) (v3 + 1) st) else none
set_option maxHeartbeats 4000000 in
set_option maxRecDepth 100000 in
theorem wX11_allNear_s10 (C : Cx p s m args meth c cX11_allNear 4 wsL_law RX11 (some .long) D G ad) (n : Nat) (K4 : Int64 → Int32 → St → Option (Int64 × St))  (v1 : Int64) (v3 : Int32)   (st : St) (res : (Int64 × St)) (hK4 : ∀ (v1 : Int64) (v3 : Int32) (st : St), K4 v1 v3 st = some res → At p l e (rmK 0) s m args below meth c D G ad (MQJ D G ad below args s res) 4 st [(0, .ref (ad 130)), (1, .long v1), (3, .int v3)] 4 []) (hf : fX11_allNear_s10 n K4  v1 v3 st = some res) : At p l e (rmK 0) s m args below meth c D G ad (MQJ D G ad below args s res) 4 st [(0, .ref (ad 130)), (1, .long v1), (3, .int v3)] 10 [] := by
  obtain ⟨hx, hb, hml, hown, hts, hr, hlk, hK, had, hSt⟩ := id C
  intro H locs ls hl hP hS
  unfold fX11_allNear_s10 at hf
  refine lv_lload_n hx hb dX11_allNear_10 rfl (lv_at hl 1 rfl) ?_
  refine lv_aload_n hx hb dX11_allNear_11 rfl (lv_at hl 0 rfl) ?_
  refine g_getR hx hb hts inlX11 hown hK hP 130 ct_130 rfl 59 (by decide) (hts _ wm_8_18) rfl dX11_allNear_12 ?_
  refine lv_iload_n hx hb dX11_allNear_15 rfl (lv_at hl 2 rfl) ?_
  obtain ⟨g1, hf⟩ := gd hf
  refine g_lald hx hb hK hP 166 ct_166 g1 dX11_allNear_16 ?_
  refine lv_ladd hx hb dX11_allNear_17 ?_
  refine lv_lstore_n (lv' := [(1, .long (v1 + (st.2 166 v3.toNatClampNeg))), (0, .ref (ad 130)), (3, .int v3)]) hx hb dX11_allNear_18 rfl hl (by decide) rfl (fun ls hl => ?_)
  refine lv_iinc (v := v3 + 1) (lv' := [(3, .int (v3 + 1)), (1, .long (v1 + (st.2 166 v3.toNatClampNeg))), (0, .ref (ad 130))]) hx hb dX11_allNear_19 hl (k := 2) rfl rfl (by decide) rfl (fun ls hl => ?_)
  refine lv_goto (tgt := 4) hx hb dX11_allNear_22 (by decide) ?_
  exact hK4 (v1 + (st.2 166 v3.toNatClampNeg)) (v3 + 1)  st hf H locs ls (lv_sub hl [2, 1, 0] rfl) hP hS
def fX11_allNear_s4 (n : Nat) (K4 : Int64 → Int32 → St → Option (Int64 × St))  (v1 : Int64) (v3 : Int32) (st : St) : Option (Int64 × St) := if 25 ≤ v3 then fX11_allNear_s25 n v1 st else fX11_allNear_s10 n K4 v1 v3 st
set_option maxHeartbeats 4000000 in
set_option maxRecDepth 100000 in
theorem wX11_allNear_s4 (C : Cx p s m args meth c cX11_allNear 4 wsL_law RX11 (some .long) D G ad) (n : Nat) (K4 : Int64 → Int32 → St → Option (Int64 × St))  (v1 : Int64) (v3 : Int32)   (st : St) (res : (Int64 × St)) (hK4 : ∀ (v1 : Int64) (v3 : Int32) (st : St), K4 v1 v3 st = some res → At p l e (rmK 0) s m args below meth c D G ad (MQJ D G ad below args s res) 4 st [(0, .ref (ad 130)), (1, .long v1), (3, .int v3)] 4 []) (hf : fX11_allNear_s4 n K4  v1 v3 st = some res) : At p l e (rmK 0) s m args below meth c D G ad (MQJ D G ad below args s res) 4 st [(0, .ref (ad 130)), (1, .long v1), (3, .int v3)] 4 [] := by
  obtain ⟨hx, hb, hml, hown, hts, hr, hlk, hK, had, hSt⟩ := id C
  intro H locs ls hl hP hS
  unfold fX11_allNear_s4 at hf
  refine lv_iload_n hx hb dX11_allNear_4 rfl (lv_at hl 2 rfl) ?_
  refine lv_bipush (v := 25) hx hb dX11_allNear_5 (by decide) ?_
  refine lv_icmp_ge (tgt := 25) hx hb dX11_allNear_7 (by decide) (fun q => ?_) (fun q => ?_)
  · exact wX11_allNear_s25 C n v1 st res (it hf q) H locs ls (lv_sub hl [1] rfl) hP hS
  · exact wX11_allNear_s10 C n K4 v1 v3 st res hK4 (ie hf q) H locs ls (lv_sub hl [0, 1, 2] rfl) hP hS
def fX11_allNear_L4 (n : Nat)   : Nat → Int64 → Int32 → St → Option (Int64 × St)
  | 0, _, _, _ => none
  | k + 1, v1, v3, st => fX11_allNear_s4 n (fX11_allNear_L4 n k)  v1 v3 st
theorem wX11_allNear_L4 (C : Cx p s m args meth c cX11_allNear 4 wsL_law RX11 (some .long) D G ad) (n : Nat)    (res : (Int64 × St))  : ∀ (k : Nat) (v1 : Int64) (v3 : Int32)  (st : St), fX11_allNear_L4 n k v1 v3 st = some res → At p l e (rmK 0) s m args below meth c D G ad (MQJ D G ad below args s res) 4 st [(0, .ref (ad 130)), (1, .long v1), (3, .int v3)] 4 [] := by
  intro k
  induction k with
  | zero => intro v1 v3  st h; exact absurd h (by intro q; cases q)
  | succ k ih => intro v1 v3  st h; exact wX11_allNear_s4 C n (fX11_allNear_L4 n k)  v1 v3   st res ih h
def fX11_allNear_s0 (n : Nat)    (st : St) : Option (Int64 × St) := fX11_allNear_L4 n n 0 0 st
set_option maxHeartbeats 4000000 in
set_option maxRecDepth 100000 in
theorem wX11_allNear_s0 (C : Cx p s m args meth c cX11_allNear 4 wsL_law RX11 (some .long) D G ad) (n : Nat)      (st : St) (res : (Int64 × St))  (hf : fX11_allNear_s0 n    st = some res) : At p l e (rmK 0) s m args below meth c D G ad (MQJ D G ad below args s res) 4 st [(0, .ref (ad 130))] 0 [] := by
  obtain ⟨hx, hb, hml, hown, hts, hr, hlk, hK, had, hSt⟩ := id C
  intro H locs ls hl hP hS
  unfold fX11_allNear_s0 at hf
  refine lv_lconst (v := 0) hx hb dX11_allNear_0 (by decide) ?_
  refine lv_lstore_n (lv' := [(1, .long 0), (0, .ref (ad 130))]) hx hb dX11_allNear_1 rfl hl (by decide) rfl (fun ls hl => ?_)
  refine lv_iconst (v := 0) hx hb dX11_allNear_2 (by decide) ?_
  refine lv_istore_n (lv' := [(3, .int 0), (1, .long 0), (0, .ref (ad 130))]) hx hb dX11_allNear_3 rfl hl (by decide) rfl (fun ls hl => ?_)
  exact wX11_allNear_L4 C n res n 0 0 st hf H locs ls (lv_sub hl [2, 1, 0] rfl) hP hS
def fX11_allNear (n : Nat)   (st : St) : Option (Int64 × St) := fX11_allNear_s0 n st
theorem okX11_allNear : okY yX11_allNear RX11 0 := by unfold okY; decide +kernel
end
set_option maxRecDepth 100000 in
theorem kX11_allNear (l : Launch) (D : va_G) (G : G3) (ad : Nat → Nat) (had : Adr ad) (n : Nat)    (st : St) (res : (Int64 × St)) (hf : fX11_allNear n   st = some res) {sz : Nat} : CtJ l yX11_allNear (wsU yX11_allNear cX11_allNear 4 (some .long)) (rmK 0) D G ad sz [.ref (ad 130)] st res := by
  refine Met.ofW (cc := cX11_allNear) (maxL := 4) (ret := (some .long)) (by decide) rfl ?_
  intro p e s m args below meth c s₁ B hml hv
  obtain ⟨rfl, hsz, hP, hK, hSt⟩ := hv
  have hts := atoms_spec (ws := wsU yX11_allNear cX11_allNear 4 (some .long)) B.pre
  have C : Cx p s m _ meth c cX11_allNear 4 wsL_law RX11 (some .long) D G ad := ⟨B.exec, B.bytes, hml, findClass_of_methodNamed B.named, fun w h => hts w (List.mem_cons_of_mem _ h), B.returns, B.notSynchronized, hK, had, hSt⟩
  subst hsz
  have hl := lv_entry ([.ref (ad 130)]) (n := 4) (Nat.le_of_ble_eq_true rfl)
  rw [lg_entry_eq]
  generalize (lg_sl ([.ref (ad 130)]) ++ List.replicate (4 - (lg_sl ([.ref (ad 130)])).length) Slot.unset).toArray = ls at hl ⊢
  exact wX11_allNear_s0 C n     st res hf s.heap [] ls (lv_sub hl [0] rfl) hP va_S.rf
section
variable {p : Program} {l : Launch} {e : Env} {s : State} {m : MethodId} {args : Array Value} {below : List Frame} {meth : Method} {c : Code} {D : va_G} {G : G3} {ad : Nat → Nat}
def fX11_near_s122 (n : Nat)   (v5 : Int64) (st : St) : Option (Int64 × St) := some (v5, st)
set_option maxHeartbeats 4000000 in
set_option maxRecDepth 100000 in
theorem wX11_near_s122 (C : Cx p s m args meth c cX11_near 8 wsL_law RX11 (some .long) D G ad) (n : Nat)   (v5 : Int64)   (st : St) (res : (Int64 × St))  (hf : fX11_near_s122 n   v5 st = some res) : At p l e (rmK 1) s m args below meth c D G ad (MQJ D G ad below args s res) 8 st [(5, .long v5)] 122 [] := by
  obtain ⟨hx, hb, hml, hown, hts, hr, hlk, hK, had, hSt⟩ := id C
  intro H locs ls hl hP hS
  unfold fX11_near_s122 at hf
  refine lv_lload hx hb dX11_near_122 (lv_at hl 0 rfl) ?_
  exact g_lret hx hb hr hlk hP hS dX11_near_124 hf
def fX11_near_s111 (n : Nat) (K53 : Int64 → Int64 → Int32 → St → Option (Int64 × St))  (v3 : Int64) (v7 : Int32) (k0 : Int64) (k1 : Int64) (k2 : Int64) (k3 : Int64) (st : St) : Option (Int64 × St) := K53 v3 (k0 + (k1 * (k2 + k3))) (v7 + 1) st
set_option maxHeartbeats 4000000 in
set_option maxRecDepth 100000 in
theorem wX11_near_s111 (C : Cx p s m args meth c cX11_near 8 wsL_law RX11 (some .long) D G ad) (n : Nat) (K53 : Int64 → Int64 → Int32 → St → Option (Int64 × St))  (v3 : Int64) (v7 : Int32) (k0 : Int64) (k1 : Int64) (k2 : Int64) (k3 : Int64)   (st : St) (res : (Int64 × St)) (hK53 : ∀ (v3 : Int64) (v5 : Int64) (v7 : Int32) (st : St), K53 v3 v5 v7 st = some res → At p l e (rmK 1) s m args below meth c D G ad (MQJ D G ad below args s res) 8 st [(0, .ref (ad 130)), (3, .long v3), (5, .long v5), (7, .int v7)] 53 []) (hf : fX11_near_s111 n K53  v3 v7 k0 k1 k2 k3 st = some res) : At p l e (rmK 1) s m args below meth c D G ad (MQJ D G ad below args s res) 8 st [(0, .ref (ad 130)), (3, .long v3), (7, .int v7)] 111 [.long k3, .long k2, .long k1, .long k0] := by
  obtain ⟨hx, hb, hml, hown, hts, hr, hlk, hK, had, hSt⟩ := id C
  intro H locs ls hl hP hS
  unfold fX11_near_s111 at hf
  refine lv_ladd hx hb dX11_near_111 ?_
  refine lv_lmul hx hb dX11_near_112 ?_
  refine lv_ladd hx hb dX11_near_113 ?_
  refine lv_lstore (lv' := [(5, .long (k0 + (k1 * (k2 + k3)))), (0, .ref (ad 130)), (3, .long v3), (7, .int v7)]) hx hb dX11_near_114 hl (by decide) rfl (fun ls hl => ?_)
  refine lv_iinc (v := v7 + 1) (lv' := [(7, .int (v7 + 1)), (5, .long (k0 + (k1 * (k2 + k3)))), (0, .ref (ad 130)), (3, .long v3)]) hx hb dX11_near_116 hl (k := 3) rfl rfl (by decide) rfl (fun ls hl => ?_)
  refine lv_goto (tgt := 53) hx hb dX11_near_119 (by decide) ?_
  exact hK53 v3 (k0 + (k1 * (k2 + k3))) (v7 + 1)  st hf H locs ls (lv_sub hl [2, 3, 1, 0] rfl) hP hS
def fX11_near_s110 (n : Nat) (K53 : Int64 → Int64 → Int32 → St → Option (Int64 × St))  (v3 : Int64) (v7 : Int32) (k0 : Int64) (k1 : Int64) (k2 : Int64) (st : St) : Option (Int64 × St) := fX11_near_s111 n K53 v3 v7 k0 k1 k2 0 st
set_option maxHeartbeats 4000000 in
set_option maxRecDepth 100000 in
theorem wX11_near_s110 (C : Cx p s m args meth c cX11_near 8 wsL_law RX11 (some .long) D G ad) (n : Nat) (K53 : Int64 → Int64 → Int32 → St → Option (Int64 × St))  (v3 : Int64) (v7 : Int32) (k0 : Int64) (k1 : Int64) (k2 : Int64)   (st : St) (res : (Int64 × St)) (hK53 : ∀ (v3 : Int64) (v5 : Int64) (v7 : Int32) (st : St), K53 v3 v5 v7 st = some res → At p l e (rmK 1) s m args below meth c D G ad (MQJ D G ad below args s res) 8 st [(0, .ref (ad 130)), (3, .long v3), (5, .long v5), (7, .int v7)] 53 []) (hf : fX11_near_s110 n K53  v3 v7 k0 k1 k2 st = some res) : At p l e (rmK 1) s m args below meth c D G ad (MQJ D G ad below args s res) 8 st [(0, .ref (ad 130)), (3, .long v3), (7, .int v7)] 110 [.long k2, .long k1, .long k0] := by
  obtain ⟨hx, hb, hml, hown, hts, hr, hlk, hK, had, hSt⟩ := id C
  intro H locs ls hl hP hS
  unfold fX11_near_s110 at hf
  refine lv_lconst (v := 0) hx hb dX11_near_110 (by decide) ?_
  exact wX11_near_s111 C n K53 v3 v7 k0 k1 k2 0 st res hK53 hf H locs ls (lv_sub hl [0, 1, 2] rfl) hP hS
def fX11_near_s87 (n : Nat) (K53 : Int64 → Int64 → Int32 → St → Option (Int64 × St))  (v3 : Int64) (v7 : Int32) (k0 : Int64) (k1 : Int64) (k2 : Int64) (st : St) : Option (Int64 × St) := fX11_near_s111 n K53 v3 v7 k0 k1 k2 ((((st.2 130 65) + (st.2 130 63)) + (st.2 130 64)) * (v7.toInt64 - v3)) st
set_option maxHeartbeats 4000000 in
set_option maxRecDepth 100000 in
theorem wX11_near_s87 (C : Cx p s m args meth c cX11_near 8 wsL_law RX11 (some .long) D G ad) (n : Nat) (K53 : Int64 → Int64 → Int32 → St → Option (Int64 × St))  (v3 : Int64) (v7 : Int32) (k0 : Int64) (k1 : Int64) (k2 : Int64)   (st : St) (res : (Int64 × St)) (hK53 : ∀ (v3 : Int64) (v5 : Int64) (v7 : Int32) (st : St), K53 v3 v5 v7 st = some res → At p l e (rmK 1) s m args below meth c D G ad (MQJ D G ad below args s res) 8 st [(0, .ref (ad 130)), (3, .long v3), (5, .long v5), (7, .int v7)] 53 []) (hf : fX11_near_s87 n K53  v3 v7 k0 k1 k2 st = some res) : At p l e (rmK 1) s m args below meth c D G ad (MQJ D G ad below args s res) 8 st [(0, .ref (ad 130)), (3, .long v3), (7, .int v7)] 87 [.long k2, .long k1, .long k0] := by
  obtain ⟨hx, hb, hml, hown, hts, hr, hlk, hK, had, hSt⟩ := id C
  intro H locs ls hl hP hS
  unfold fX11_near_s87 at hf
  refine lv_aload_n hx hb dX11_near_87 rfl (lv_at hl 0 rfl) ?_
  refine g_getJ hx hb hts inlX11 hown hK hP 130 ct_130 rfl 65 (by decide) (hts _ wm_43_6) rfl dX11_near_88 ?_
  refine lv_aload_n hx hb dX11_near_91 rfl (lv_at hl 0 rfl) ?_
  refine g_getJ hx hb hts inlX11 hown hK hP 130 ct_130 rfl 63 (by decide) (hts _ wm_43_4) rfl dX11_near_92 ?_
  refine lv_ladd hx hb dX11_near_95 ?_
  refine lv_aload_n hx hb dX11_near_96 rfl (lv_at hl 0 rfl) ?_
  refine g_getJ hx hb hts inlX11 hown hK hP 130 ct_130 rfl 64 (by decide) (hts _ wm_43_5) rfl dX11_near_97 ?_
  refine lv_ladd hx hb dX11_near_100 ?_
  refine lv_iload hx hb dX11_near_101 (lv_at hl 2 rfl) ?_
  refine lv_i2l hx hb dX11_near_103 rfl ?_
  refine lv_lload_n hx hb dX11_near_104 rfl (lv_at hl 1 rfl) ?_
  refine lv_lsub hx hb dX11_near_105 ?_
  refine lv_lmul hx hb dX11_near_106 ?_
  refine lv_goto (tgt := 111) hx hb dX11_near_107 (by decide) ?_
  exact wX11_near_s111 C n K53 v3 v7 k0 k1 k2 ((((st.2 130 65) + (st.2 130 63)) + (st.2 130 64)) * (v7.toInt64 - v3)) st res hK53 hf H locs ls (lv_sub hl [0, 1, 2] rfl) hP hS
def fX11_near_s60 (n : Nat) (K53 : Int64 → Int64 → Int32 → St → Option (Int64 × St))  (v3 : Int64) (v5 : Int64) (v7 : Int32) (st : St) : Option (Int64 × St) := if inb v7 50 = true then (if v7.toInt64 ≤ v3 then fX11_near_s110 n K53 v3 v7 v5 (st.2 166 v7.toNatClampNeg) ((st.2 130 63) * (v3 - v7.toInt64)) st else fX11_near_s87 n K53 v3 v7 v5 (st.2 166 v7.toNatClampNeg) ((st.2 130 63) * (v3 - v7.toInt64)) st) else none
set_option maxHeartbeats 4000000 in
set_option maxRecDepth 100000 in
theorem wX11_near_s60 (C : Cx p s m args meth c cX11_near 8 wsL_law RX11 (some .long) D G ad) (n : Nat) (K53 : Int64 → Int64 → Int32 → St → Option (Int64 × St))  (v3 : Int64) (v5 : Int64) (v7 : Int32)   (st : St) (res : (Int64 × St)) (hK53 : ∀ (v3 : Int64) (v5 : Int64) (v7 : Int32) (st : St), K53 v3 v5 v7 st = some res → At p l e (rmK 1) s m args below meth c D G ad (MQJ D G ad below args s res) 8 st [(0, .ref (ad 130)), (3, .long v3), (5, .long v5), (7, .int v7)] 53 []) (hf : fX11_near_s60 n K53  v3 v5 v7 st = some res) : At p l e (rmK 1) s m args below meth c D G ad (MQJ D G ad below args s res) 8 st [(0, .ref (ad 130)), (3, .long v3), (5, .long v5), (7, .int v7)] 60 [] := by
  obtain ⟨hx, hb, hml, hown, hts, hr, hlk, hK, had, hSt⟩ := id C
  intro H locs ls hl hP hS
  unfold fX11_near_s60 at hf
  refine lv_lload hx hb dX11_near_60 (lv_at hl 2 rfl) ?_
  refine lv_aload_n hx hb dX11_near_62 rfl (lv_at hl 0 rfl) ?_
  refine g_getR hx hb hts inlX11 hown hK hP 130 ct_130 rfl 59 (by decide) (hts _ wm_8_18) rfl dX11_near_63 ?_
  refine lv_iload hx hb dX11_near_66 (lv_at hl 3 rfl) ?_
  obtain ⟨g1, hf⟩ := gd hf
  refine g_lald hx hb hK hP 166 ct_166 g1 dX11_near_68 ?_
  refine lv_aload_n hx hb dX11_near_69 rfl (lv_at hl 0 rfl) ?_
  refine g_getJ hx hb hts inlX11 hown hK hP 130 ct_130 rfl 63 (by decide) (hts _ wm_43_4) rfl dX11_near_70 ?_
  refine lv_lload_n hx hb dX11_near_73 rfl (lv_at hl 1 rfl) ?_
  refine lv_iload hx hb dX11_near_74 (lv_at hl 3 rfl) ?_
  refine lv_i2l hx hb dX11_near_76 rfl ?_
  refine lv_lsub hx hb dX11_near_77 ?_
  refine lv_lmul hx hb dX11_near_78 ?_
  refine lv_iload hx hb dX11_near_79 (lv_at hl 3 rfl) ?_
  refine lv_i2l hx hb dX11_near_81 rfl ?_
  refine lv_lload_n hx hb dX11_near_82 rfl (lv_at hl 1 rfl) ?_
  refine g_lcmp_le (tgt := 110) hx hb dX11_near_83 dX11_near_84 (by decide) (fun q => ?_) (fun q => ?_)
  · exact wX11_near_s110 C n K53 v3 v7 v5 (st.2 166 v7.toNatClampNeg) ((st.2 130 63) * (v3 - v7.toInt64)) st res hK53 (it hf q) H locs ls (lv_sub hl [0, 1, 3] rfl) hP hS
  · exact wX11_near_s87 C n K53 v3 v7 v5 (st.2 166 v7.toNatClampNeg) ((st.2 130 63) * (v3 - v7.toInt64)) st res hK53 (ie hf q) H locs ls (lv_sub hl [0, 1, 3] rfl) hP hS
def fX11_near_s53 (n : Nat) (K53 : Int64 → Int64 → Int32 → St → Option (Int64 × St))  (v3 : Int64) (v5 : Int64) (v7 : Int32) (st : St) : Option (Int64 × St) := if 25 ≤ v7 then fX11_near_s122 n v5 st else fX11_near_s60 n K53 v3 v5 v7 st
set_option maxHeartbeats 4000000 in
set_option maxRecDepth 100000 in
theorem wX11_near_s53 (C : Cx p s m args meth c cX11_near 8 wsL_law RX11 (some .long) D G ad) (n : Nat) (K53 : Int64 → Int64 → Int32 → St → Option (Int64 × St))  (v3 : Int64) (v5 : Int64) (v7 : Int32)   (st : St) (res : (Int64 × St)) (hK53 : ∀ (v3 : Int64) (v5 : Int64) (v7 : Int32) (st : St), K53 v3 v5 v7 st = some res → At p l e (rmK 1) s m args below meth c D G ad (MQJ D G ad below args s res) 8 st [(0, .ref (ad 130)), (3, .long v3), (5, .long v5), (7, .int v7)] 53 []) (hf : fX11_near_s53 n K53  v3 v5 v7 st = some res) : At p l e (rmK 1) s m args below meth c D G ad (MQJ D G ad below args s res) 8 st [(0, .ref (ad 130)), (3, .long v3), (5, .long v5), (7, .int v7)] 53 [] := by
  obtain ⟨hx, hb, hml, hown, hts, hr, hlk, hK, had, hSt⟩ := id C
  intro H locs ls hl hP hS
  unfold fX11_near_s53 at hf
  refine lv_iload hx hb dX11_near_53 (lv_at hl 3 rfl) ?_
  refine lv_bipush (v := 25) hx hb dX11_near_55 (by decide) ?_
  refine lv_icmp_ge (tgt := 122) hx hb dX11_near_57 (by decide) (fun q => ?_) (fun q => ?_)
  · exact wX11_near_s122 C n v5 st res (it hf q) H locs ls (lv_sub hl [2] rfl) hP hS
  · exact wX11_near_s60 C n K53 v3 v5 v7 st res hK53 (ie hf q) H locs ls (lv_sub hl [0, 1, 2, 3] rfl) hP hS
def fX11_near_L53 (n : Nat)   : Nat → Int64 → Int64 → Int32 → St → Option (Int64 × St)
  | 0, _, _, _, _ => none
  | k + 1, v3, v5, v7, st => fX11_near_s53 n (fX11_near_L53 n k)  v3 v5 v7 st
theorem wX11_near_L53 (C : Cx p s m args meth c cX11_near 8 wsL_law RX11 (some .long) D G ad) (n : Nat)    (res : (Int64 × St))  : ∀ (k : Nat) (v3 : Int64) (v5 : Int64) (v7 : Int32)  (st : St), fX11_near_L53 n k v3 v5 v7 st = some res → At p l e (rmK 1) s m args below meth c D G ad (MQJ D G ad below args s res) 8 st [(0, .ref (ad 130)), (3, .long v3), (5, .long v5), (7, .int v7)] 53 [] := by
  intro k
  induction k with
  | zero => intro v3 v5 v7  st h; exact absurd h (by intro q; cases q)
  | succ k ih => intro v3 v5 v7  st h; exact wX11_near_s53 C n (fX11_near_L53 n k)  v3 v5 v7   st res ih h
def fX11_near_s48 (n : Nat)   (v3 : Int64) (k0 : Int64) (st : St) : Option (Int64 × St) := fX11_near_L53 n n v3 k0 0 st
set_option maxHeartbeats 4000000 in
set_option maxRecDepth 100000 in
theorem wX11_near_s48 (C : Cx p s m args meth c cX11_near 8 wsL_law RX11 (some .long) D G ad) (n : Nat)   (v3 : Int64) (k0 : Int64)   (st : St) (res : (Int64 × St))  (hf : fX11_near_s48 n   v3 k0 st = some res) : At p l e (rmK 1) s m args below meth c D G ad (MQJ D G ad below args s res) 8 st [(0, .ref (ad 130)), (3, .long v3)] 48 [.long k0] := by
  obtain ⟨hx, hb, hml, hown, hts, hr, hlk, hK, had, hSt⟩ := id C
  intro H locs ls hl hP hS
  unfold fX11_near_s48 at hf
  refine lv_lstore (lv' := [(5, .long k0), (0, .ref (ad 130)), (3, .long v3)]) hx hb dX11_near_48 hl (by decide) rfl (fun ls hl => ?_)
  refine lv_iconst (v := 0) hx hb dX11_near_50 (by decide) ?_
  refine lv_istore (lv' := [(7, .int 0), (5, .long k0), (0, .ref (ad 130)), (3, .long v3)]) hx hb dX11_near_51 hl (by decide) rfl (fun ls hl => ?_)
  exact wX11_near_L53 C n res n v3 k0 0 st hf H locs ls (lv_sub hl [2, 3, 1, 0] rfl) hP hS
def fX11_near_s47 (n : Nat)   (v3 : Int64) (st : St) : Option (Int64 × St) := fX11_near_s48 n v3 0 st
set_option maxHeartbeats 4000000 in
set_option maxRecDepth 100000 in
theorem wX11_near_s47 (C : Cx p s m args meth c cX11_near 8 wsL_law RX11 (some .long) D G ad) (n : Nat)   (v3 : Int64)   (st : St) (res : (Int64 × St))  (hf : fX11_near_s47 n   v3 st = some res) : At p l e (rmK 1) s m args below meth c D G ad (MQJ D G ad below args s res) 8 st [(0, .ref (ad 130)), (3, .long v3)] 47 [] := by
  obtain ⟨hx, hb, hml, hown, hts, hr, hlk, hK, had, hSt⟩ := id C
  intro H locs ls hl hP hS
  unfold fX11_near_s47 at hf
  refine lv_lconst (v := 0) hx hb dX11_near_47 (by decide) ?_
  exact wX11_near_s48 C n v3 0 st res hf H locs ls (lv_sub hl [0, 1] rfl) hP hS
def fX11_near_s43 (n : Nat)   (v3 : Int64) (k0 : Int64) (k1 : Int64) (st : St) : Option (Int64 × St) := fX11_near_s48 n v3 (k0 * k1) st
set_option maxHeartbeats 4000000 in
set_option maxRecDepth 100000 in
theorem wX11_near_s43 (C : Cx p s m args meth c cX11_near 8 wsL_law RX11 (some .long) D G ad) (n : Nat)   (v3 : Int64) (k0 : Int64) (k1 : Int64)   (st : St) (res : (Int64 × St))  (hf : fX11_near_s43 n   v3 k0 k1 st = some res) : At p l e (rmK 1) s m args below meth c D G ad (MQJ D G ad below args s res) 8 st [(0, .ref (ad 130)), (3, .long v3)] 43 [.long k1, .long k0] := by
  obtain ⟨hx, hb, hml, hown, hts, hr, hlk, hK, had, hSt⟩ := id C
  intro H locs ls hl hP hS
  unfold fX11_near_s43 at hf
  refine lv_lmul hx hb dX11_near_43 ?_
  refine lv_goto (tgt := 48) hx hb dX11_near_44 (by decide) ?_
  exact wX11_near_s48 C n v3 (k0 * k1) st res hf H locs ls (lv_sub hl [0, 1] rfl) hP hS
def fX11_near_s24 (n : Nat)   (v1 : Int64) (v3 : Int64) (st : St) : Option (Int64 × St) := (fX11_allNear n st).bind (fun q => fX11_near_s43 n v3 (((st.2 130 65) + (st.2 130 64)) * ((-30) - v1)) q.1 q.2)
set_option maxHeartbeats 4000000 in
set_option maxRecDepth 100000 in
theorem wX11_near_s24 (C : Cx p s m args meth c cX11_near 8 wsL_law RX11 (some .long) D G ad) (n : Nat)   (v1 : Int64) (v3 : Int64)   (st : St) (res : (Int64 × St))  (hf : fX11_near_s24 n   v1 v3 st = some res) : At p l e (rmK 1) s m args below meth c D G ad (MQJ D G ad below args s res) 8 st [(0, .ref (ad 130)), (1, .long v1), (3, .long v3)] 24 [] := by
  obtain ⟨hx, hb, hml, hown, hts, hr, hlk, hK, had, hSt⟩ := id C
  intro H locs ls hl hP hS
  unfold fX11_near_s24 at hf
  refine lv_aload_n hx hb dX11_near_24 rfl (lv_at hl 0 rfl) ?_
  refine g_getJ hx hb hts inlX11 hown hK hP 130 ct_130 rfl 65 (by decide) (hts _ wm_43_6) rfl dX11_near_25 ?_
  refine lv_aload_n hx hb dX11_near_28 rfl (lv_at hl 0 rfl) ?_
  refine g_getJ hx hb hts inlX11 hown hK hP 130 ct_130 rfl 64 (by decide) (hts _ wm_43_5) rfl dX11_near_29 ?_
  refine lv_ladd hx hb dX11_near_32 ?_
  refine lv_ldc2 hx hb hown (hts _ wm_43_16) dX11_near_33 ?_
  refine lv_lload_n hx hb dX11_near_36 rfl (lv_at hl 1 rfl) ?_
  refine lv_lsub hx hb dX11_near_37 ?_
  refine lv_lmul hx hb dX11_near_38 ?_
  refine lv_aload_n hx hb dX11_near_39 rfl (lv_at hl 0 rfl) ?_
  obtain ⟨q, hq, hf⟩ := bd hf
  refine gcV_j (k := 0) (o := 130) (As := []) (rest := [.long (((st.2 130 65) + (st.2 130 64)) * ((-30) - v1))]) hx hb hml hown hts hK hSt hP hS hl.1 (goodV wm_43_17 wm_43_18 wm_43_19 wm_1_5 wm_43_20) okX11_allNear ct_130 rfl rfl (Nat.le_of_ble_eq_true rfl) (Nat.le_of_ble_eq_true rfl) rfl rfl (Nat.le_of_ble_eq_true rfl) dX11_near_40 (kX11_allNear l D G ad had n   st q hq) (fun H locs hP hS => ?_)
  exact wX11_near_s43 C n v3 (((st.2 130 65) + (st.2 130 64)) * ((-30) - v1)) q.1 q.2 res hf H locs ls (lv_sub hl [0, 2] rfl) hP hS
def fX11_near_s15 (n : Nat)   (v1 : Int64) (k0 : Int64) (st : St) : Option (Int64 × St) := if (-30) ≤ v1 then fX11_near_s47 n k0 st else fX11_near_s24 n v1 k0 st
set_option maxHeartbeats 4000000 in
set_option maxRecDepth 100000 in
theorem wX11_near_s15 (C : Cx p s m args meth c cX11_near 8 wsL_law RX11 (some .long) D G ad) (n : Nat)   (v1 : Int64) (k0 : Int64)   (st : St) (res : (Int64 × St))  (hf : fX11_near_s15 n   v1 k0 st = some res) : At p l e (rmK 1) s m args below meth c D G ad (MQJ D G ad below args s res) 8 st [(0, .ref (ad 130)), (1, .long v1)] 15 [.long k0] := by
  obtain ⟨hx, hb, hml, hown, hts, hr, hlk, hK, had, hSt⟩ := id C
  intro H locs ls hl hP hS
  unfold fX11_near_s15 at hf
  refine lv_lstore_n (lv' := [(3, .long k0), (0, .ref (ad 130)), (1, .long v1)]) hx hb dX11_near_15 rfl hl (by decide) rfl (fun ls hl => ?_)
  refine lv_lload_n hx hb dX11_near_16 rfl (lv_at hl 2 rfl) ?_
  refine lv_ldc2 hx hb hown (hts _ wm_43_16) dX11_near_17 ?_
  refine g_lcmp_ge (tgt := 47) hx hb dX11_near_20 dX11_near_21 (by decide) (fun q => ?_) (fun q => ?_)
  · exact wX11_near_s47 C n k0 st res (it hf q) H locs ls (lv_sub hl [1, 0] rfl) hP hS
  · exact wX11_near_s24 C n v1 k0 st res (ie hf q) H locs ls (lv_sub hl [1, 2, 0] rfl) hP hS
def fX11_near_s14 (n : Nat)   (v1 : Int64) (st : St) : Option (Int64 × St) := fX11_near_s15 n v1 v1 st
set_option maxHeartbeats 4000000 in
set_option maxRecDepth 100000 in
theorem wX11_near_s14 (C : Cx p s m args meth c cX11_near 8 wsL_law RX11 (some .long) D G ad) (n : Nat)   (v1 : Int64)   (st : St) (res : (Int64 × St))  (hf : fX11_near_s14 n   v1 st = some res) : At p l e (rmK 1) s m args below meth c D G ad (MQJ D G ad below args s res) 8 st [(0, .ref (ad 130)), (1, .long v1)] 14 [] := by
  obtain ⟨hx, hb, hml, hown, hts, hr, hlk, hK, had, hSt⟩ := id C
  intro H locs ls hl hP hS
  unfold fX11_near_s14 at hf
  refine lv_lload_n hx hb dX11_near_14 rfl (lv_at hl 1 rfl) ?_
  exact wX11_near_s15 C n v1 v1 st res hf H locs ls (lv_sub hl [0, 1] rfl) hP hS
def fX11_near_s8 (n : Nat)   (v1 : Int64) (st : St) : Option (Int64 × St) := fX11_near_s15 n v1 (-30) st
set_option maxHeartbeats 4000000 in
set_option maxRecDepth 100000 in
theorem wX11_near_s8 (C : Cx p s m args meth c cX11_near 8 wsL_law RX11 (some .long) D G ad) (n : Nat)   (v1 : Int64)   (st : St) (res : (Int64 × St))  (hf : fX11_near_s8 n   v1 st = some res) : At p l e (rmK 1) s m args below meth c D G ad (MQJ D G ad below args s res) 8 st [(0, .ref (ad 130)), (1, .long v1)] 8 [] := by
  obtain ⟨hx, hb, hml, hown, hts, hr, hlk, hK, had, hSt⟩ := id C
  intro H locs ls hl hP hS
  unfold fX11_near_s8 at hf
  refine lv_ldc2 hx hb hown (hts _ wm_43_16) dX11_near_8 ?_
  refine lv_goto (tgt := 15) hx hb dX11_near_11 (by decide) ?_
  exact wX11_near_s15 C n v1 (-30) st res hf H locs ls (lv_sub hl [0, 1] rfl) hP hS
def fX11_near_s0 (n : Nat)   (v1 : Int64) (st : St) : Option (Int64 × St) := if (-30) ≤ v1 then fX11_near_s14 n v1 st else fX11_near_s8 n v1 st
set_option maxHeartbeats 4000000 in
set_option maxRecDepth 100000 in
theorem wX11_near_s0 (C : Cx p s m args meth c cX11_near 8 wsL_law RX11 (some .long) D G ad) (n : Nat)   (v1 : Int64)   (st : St) (res : (Int64 × St))  (hf : fX11_near_s0 n   v1 st = some res) : At p l e (rmK 1) s m args below meth c D G ad (MQJ D G ad below args s res) 8 st [(0, .ref (ad 130)), (1, .long v1)] 0 [] := by
  obtain ⟨hx, hb, hml, hown, hts, hr, hlk, hK, had, hSt⟩ := id C
  intro H locs ls hl hP hS
  unfold fX11_near_s0 at hf
  refine lv_lload_n hx hb dX11_near_0 rfl (lv_at hl 1 rfl) ?_
  refine lv_ldc2 hx hb hown (hts _ wm_43_16) dX11_near_1 ?_
  refine g_lcmp_ge (tgt := 14) hx hb dX11_near_4 dX11_near_5 (by decide) (fun q => ?_) (fun q => ?_)
  · exact wX11_near_s14 C n v1 st res (it hf q) H locs ls (lv_sub hl [0, 1] rfl) hP hS
  · exact wX11_near_s8 C n v1 st res (ie hf q) H locs ls (lv_sub hl [0, 1] rfl) hP hS
def fX11_near (n : Nat)  (a1 : Int64) (st : St) : Option (Int64 × St) := fX11_near_s0 n a1 st
theorem okX11_near : okY yX11_near RX11 1 := by unfold okY; decide +kernel
end
set_option maxRecDepth 100000 in
theorem kX11_near (l : Launch) (D : va_G) (G : G3) (ad : Nat → Nat) (had : Adr ad) (n : Nat)   (a1 : Int64) (st : St) (res : (Int64 × St)) (hf : fX11_near n  a1 st = some res) {sz : Nat} : CtJ l yX11_near (wsU yX11_near cX11_near 8 (some .long)) (rmK 1) D G ad sz [.ref (ad 130), .long a1] st res := by
  refine Met.ofW (cc := cX11_near) (maxL := 8) (ret := (some .long)) (by decide) rfl ?_
  intro p e s m args below meth c s₁ B hml hv
  obtain ⟨rfl, hsz, hP, hK, hSt⟩ := hv
  have hts := atoms_spec (ws := wsU yX11_near cX11_near 8 (some .long)) B.pre
  have C : Cx p s m _ meth c cX11_near 8 wsL_law RX11 (some .long) D G ad := ⟨B.exec, B.bytes, hml, findClass_of_methodNamed B.named, fun w h => hts w (List.mem_cons_of_mem _ h), B.returns, B.notSynchronized, hK, had, hSt⟩
  subst hsz
  have hl := lv_entry ([.ref (ad 130), .long a1]) (n := 8) (Nat.le_of_ble_eq_true rfl)
  rw [lg_entry_eq]
  generalize (lg_sl ([.ref (ad 130), .long a1]) ++ List.replicate (8 - (lg_sl ([.ref (ad 130), .long a1])).length) Slot.unset).toArray = ls at hl ⊢
  exact wX11_near_s0 C n  a1   st res hf s.heap [] ls (lv_sub hl [0, 1] rfl) hP va_S.rf
section
variable {p : Program} {l : Launch} {e : Env} {s : State} {m : MethodId} {args : Array Value} {below : List Frame} {meth : Method} {c : Code} {D : va_G} {G : G3} {ad : Nat → Nat}
def fX11_nearLevel_s38 (n : Nat)   (v1 : Int32) (st : St) : Option (Int32 × St) := some (v1, st)
set_option maxHeartbeats 4000000 in
set_option maxRecDepth 100000 in
theorem wX11_nearLevel_s38 (C : Cx p s m args meth c cX11_nearLevel 3 wsL_law RX11 (some .int) D G ad) (n : Nat)   (v1 : Int32)   (st : St) (res : (Int32 × St))  (hf : fX11_nearLevel_s38 n   v1 st = some res) : At p l e (rmK 2) s m args below meth c D G ad (MQI D G ad below args s res) 3 st [(1, .int v1)] 38 [] := by
  obtain ⟨hx, hb, hml, hown, hts, hr, hlk, hK, had, hSt⟩ := id C
  intro H locs ls hl hP hS
  unfold fX11_nearLevel_s38 at hf
  refine lv_iload_n hx hb dX11_nearLevel_38 rfl (lv_at hl 0 rfl) ?_
  exact g_iret hx hb hr hlk hP hS dX11_nearLevel_39 hf
def fX11_nearLevel_s31 (n : Nat) (K4 : Int32 → Int32 → St → Option (Int32 × St))  (v2 : Int32) (k0 : Int32) (st : St) : Option (Int32 × St) := K4 k0 (v2 + 1) st
set_option maxHeartbeats 4000000 in
set_option maxRecDepth 100000 in
theorem wX11_nearLevel_s31 (C : Cx p s m args meth c cX11_nearLevel 3 wsL_law RX11 (some .int) D G ad) (n : Nat) (K4 : Int32 → Int32 → St → Option (Int32 × St))  (v2 : Int32) (k0 : Int32)   (st : St) (res : (Int32 × St)) (hK4 : ∀ (v1 : Int32) (v2 : Int32) (st : St), K4 v1 v2 st = some res → At p l e (rmK 2) s m args below meth c D G ad (MQI D G ad below args s res) 3 st [(0, .ref (ad 130)), (1, .int v1), (2, .int v2)] 4 []) (hf : fX11_nearLevel_s31 n K4  v2 k0 st = some res) : At p l e (rmK 2) s m args below meth c D G ad (MQI D G ad below args s res) 3 st [(0, .ref (ad 130)), (2, .int v2)] 31 [.int k0] := by
  obtain ⟨hx, hb, hml, hown, hts, hr, hlk, hK, had, hSt⟩ := id C
  intro H locs ls hl hP hS
  unfold fX11_nearLevel_s31 at hf
  refine lv_istore_n (lv' := [(1, .int k0), (0, .ref (ad 130)), (2, .int v2)]) hx hb dX11_nearLevel_31 rfl hl (by decide) rfl (fun ls hl => ?_)
  refine lv_iinc (v := v2 + 1) (lv' := [(2, .int (v2 + 1)), (1, .int k0), (0, .ref (ad 130))]) hx hb dX11_nearLevel_32 hl (k := 2) rfl rfl (by decide) rfl (fun ls hl => ?_)
  refine lv_goto (tgt := 4) hx hb dX11_nearLevel_35 (by decide) ?_
  exact hK4 k0 (v2 + 1)  st hf H locs ls (lv_sub hl [2, 1, 0] rfl) hP hS
def fX11_nearLevel_s30 (n : Nat) (K4 : Int32 → Int32 → St → Option (Int32 × St))  (v1 : Int32) (v2 : Int32) (st : St) : Option (Int32 × St) := fX11_nearLevel_s31 n K4 v2 v1 st
set_option maxHeartbeats 4000000 in
set_option maxRecDepth 100000 in
theorem wX11_nearLevel_s30 (C : Cx p s m args meth c cX11_nearLevel 3 wsL_law RX11 (some .int) D G ad) (n : Nat) (K4 : Int32 → Int32 → St → Option (Int32 × St))  (v1 : Int32) (v2 : Int32)   (st : St) (res : (Int32 × St)) (hK4 : ∀ (v1 : Int32) (v2 : Int32) (st : St), K4 v1 v2 st = some res → At p l e (rmK 2) s m args below meth c D G ad (MQI D G ad below args s res) 3 st [(0, .ref (ad 130)), (1, .int v1), (2, .int v2)] 4 []) (hf : fX11_nearLevel_s30 n K4  v1 v2 st = some res) : At p l e (rmK 2) s m args below meth c D G ad (MQI D G ad below args s res) 3 st [(0, .ref (ad 130)), (1, .int v1), (2, .int v2)] 30 [] := by
  obtain ⟨hx, hb, hml, hown, hts, hr, hlk, hK, had, hSt⟩ := id C
  intro H locs ls hl hP hS
  unfold fX11_nearLevel_s30 at hf
  refine lv_iload_n hx hb dX11_nearLevel_30 rfl (lv_at hl 1 rfl) ?_
  exact wX11_nearLevel_s31 C n K4 v2 v1 st res hK4 hf H locs ls (lv_sub hl [0, 2] rfl) hP hS
def fX11_nearLevel_s26 (n : Nat) (K4 : Int32 → Int32 → St → Option (Int32 × St))  (v2 : Int32) (st : St) : Option (Int32 × St) := fX11_nearLevel_s31 n K4 v2 v2 st
set_option maxHeartbeats 4000000 in
set_option maxRecDepth 100000 in
theorem wX11_nearLevel_s26 (C : Cx p s m args meth c cX11_nearLevel 3 wsL_law RX11 (some .int) D G ad) (n : Nat) (K4 : Int32 → Int32 → St → Option (Int32 × St))  (v2 : Int32)   (st : St) (res : (Int32 × St)) (hK4 : ∀ (v1 : Int32) (v2 : Int32) (st : St), K4 v1 v2 st = some res → At p l e (rmK 2) s m args below meth c D G ad (MQI D G ad below args s res) 3 st [(0, .ref (ad 130)), (1, .int v1), (2, .int v2)] 4 []) (hf : fX11_nearLevel_s26 n K4  v2 st = some res) : At p l e (rmK 2) s m args below meth c D G ad (MQI D G ad below args s res) 3 st [(0, .ref (ad 130)), (2, .int v2)] 26 [] := by
  obtain ⟨hx, hb, hml, hown, hts, hr, hlk, hK, had, hSt⟩ := id C
  intro H locs ls hl hP hS
  unfold fX11_nearLevel_s26 at hf
  refine lv_iload_n hx hb dX11_nearLevel_26 rfl (lv_at hl 1 rfl) ?_
  refine lv_goto (tgt := 31) hx hb dX11_nearLevel_27 (by decide) ?_
  exact wX11_nearLevel_s31 C n K4 v2 v2 st res hK4 hf H locs ls (lv_sub hl [0, 1] rfl) hP hS
def fX11_nearLevel_s22 (n : Nat) (K4 : Int32 → Int32 → St → Option (Int32 × St))  (v1 : Int32) (v2 : Int32) (k0 : Int64) (k1 : Int64) (st : St) : Option (Int32 × St) := if k1 ≤ k0 then fX11_nearLevel_s30 n K4 v1 v2 st else fX11_nearLevel_s26 n K4 v2 st
set_option maxHeartbeats 4000000 in
set_option maxRecDepth 100000 in
theorem wX11_nearLevel_s22 (C : Cx p s m args meth c cX11_nearLevel 3 wsL_law RX11 (some .int) D G ad) (n : Nat) (K4 : Int32 → Int32 → St → Option (Int32 × St))  (v1 : Int32) (v2 : Int32) (k0 : Int64) (k1 : Int64)   (st : St) (res : (Int32 × St)) (hK4 : ∀ (v1 : Int32) (v2 : Int32) (st : St), K4 v1 v2 st = some res → At p l e (rmK 2) s m args below meth c D G ad (MQI D G ad below args s res) 3 st [(0, .ref (ad 130)), (1, .int v1), (2, .int v2)] 4 []) (hf : fX11_nearLevel_s22 n K4  v1 v2 k0 k1 st = some res) : At p l e (rmK 2) s m args below meth c D G ad (MQI D G ad below args s res) 3 st [(0, .ref (ad 130)), (1, .int v1), (2, .int v2)] 22 [.long k1, .long k0] := by
  obtain ⟨hx, hb, hml, hown, hts, hr, hlk, hK, had, hSt⟩ := id C
  intro H locs ls hl hP hS
  unfold fX11_nearLevel_s22 at hf
  refine g_lcmp_ge (tgt := 30) hx hb dX11_nearLevel_22 dX11_nearLevel_23 (by decide) (fun q => ?_) (fun q => ?_)
  · exact wX11_nearLevel_s30 C n K4 v1 v2 st res hK4 (it hf q) H locs ls (lv_sub hl [0, 1, 2] rfl) hP hS
  · exact wX11_nearLevel_s26 C n K4 v2 st res hK4 (ie hf q) H locs ls (lv_sub hl [0, 2] rfl) hP hS
def fX11_nearLevel_s16 (n : Nat) (K4 : Int32 → Int32 → St → Option (Int32 × St))  (v1 : Int32) (v2 : Int32) (k0 : Int64) (st : St) : Option (Int32 × St) := (fX11_near n v1.toInt64 st).bind (fun q => fX11_nearLevel_s22 n K4 v1 v2 k0 q.1 q.2)
set_option maxHeartbeats 4000000 in
set_option maxRecDepth 100000 in
theorem wX11_nearLevel_s16 (C : Cx p s m args meth c cX11_nearLevel 3 wsL_law RX11 (some .int) D G ad) (n : Nat) (K4 : Int32 → Int32 → St → Option (Int32 × St))  (v1 : Int32) (v2 : Int32) (k0 : Int64)   (st : St) (res : (Int32 × St)) (hK4 : ∀ (v1 : Int32) (v2 : Int32) (st : St), K4 v1 v2 st = some res → At p l e (rmK 2) s m args below meth c D G ad (MQI D G ad below args s res) 3 st [(0, .ref (ad 130)), (1, .int v1), (2, .int v2)] 4 []) (hf : fX11_nearLevel_s16 n K4  v1 v2 k0 st = some res) : At p l e (rmK 2) s m args below meth c D G ad (MQI D G ad below args s res) 3 st [(0, .ref (ad 130)), (1, .int v1), (2, .int v2)] 16 [.long k0] := by
  obtain ⟨hx, hb, hml, hown, hts, hr, hlk, hK, had, hSt⟩ := id C
  intro H locs ls hl hP hS
  unfold fX11_nearLevel_s16 at hf
  refine lv_aload_n hx hb dX11_nearLevel_16 rfl (lv_at hl 0 rfl) ?_
  refine lv_iload_n hx hb dX11_nearLevel_17 rfl (lv_at hl 1 rfl) ?_
  refine lv_i2l hx hb dX11_nearLevel_18 rfl ?_
  obtain ⟨q, hq, hf⟩ := bd hf
  refine gcV_j (k := 1) (o := 130) (As := [.long v1.toInt64]) (rest := [.long k0]) hx hb hml hown hts hK hSt hP hS hl.1 (goodV wm_43_12 wm_43_13 wm_43_14 wm_1_5 wm_43_15) okX11_near ct_130 rfl rfl (Nat.le_of_ble_eq_true rfl) (Nat.le_of_ble_eq_true rfl) rfl rfl (Nat.le_of_ble_eq_true rfl) dX11_nearLevel_19 (kX11_near l D G ad had n  v1.toInt64 st q hq) (fun H locs hP hS => ?_)
  exact wX11_nearLevel_s22 C n K4 v1 v2 k0 q.1 q.2 res hK4 hf H locs ls (lv_sub hl [0, 1, 2] rfl) hP hS
def fX11_nearLevel_s10 (n : Nat) (K4 : Int32 → Int32 → St → Option (Int32 × St))  (v1 : Int32) (v2 : Int32) (st : St) : Option (Int32 × St) := (fX11_near n v2.toInt64 st).bind (fun q => fX11_nearLevel_s16 n K4 v1 v2 q.1 q.2)
set_option maxHeartbeats 4000000 in
set_option maxRecDepth 100000 in
theorem wX11_nearLevel_s10 (C : Cx p s m args meth c cX11_nearLevel 3 wsL_law RX11 (some .int) D G ad) (n : Nat) (K4 : Int32 → Int32 → St → Option (Int32 × St))  (v1 : Int32) (v2 : Int32)   (st : St) (res : (Int32 × St)) (hK4 : ∀ (v1 : Int32) (v2 : Int32) (st : St), K4 v1 v2 st = some res → At p l e (rmK 2) s m args below meth c D G ad (MQI D G ad below args s res) 3 st [(0, .ref (ad 130)), (1, .int v1), (2, .int v2)] 4 []) (hf : fX11_nearLevel_s10 n K4  v1 v2 st = some res) : At p l e (rmK 2) s m args below meth c D G ad (MQI D G ad below args s res) 3 st [(0, .ref (ad 130)), (1, .int v1), (2, .int v2)] 10 [] := by
  obtain ⟨hx, hb, hml, hown, hts, hr, hlk, hK, had, hSt⟩ := id C
  intro H locs ls hl hP hS
  unfold fX11_nearLevel_s10 at hf
  refine lv_aload_n hx hb dX11_nearLevel_10 rfl (lv_at hl 0 rfl) ?_
  refine lv_iload_n hx hb dX11_nearLevel_11 rfl (lv_at hl 2 rfl) ?_
  refine lv_i2l hx hb dX11_nearLevel_12 rfl ?_
  obtain ⟨q, hq, hf⟩ := bd hf
  refine gcV_j (k := 1) (o := 130) (As := [.long v2.toInt64]) (rest := []) hx hb hml hown hts hK hSt hP hS hl.1 (goodV wm_43_12 wm_43_13 wm_43_14 wm_1_5 wm_43_15) okX11_near ct_130 rfl rfl (Nat.le_of_ble_eq_true rfl) (Nat.le_of_ble_eq_true rfl) rfl rfl (Nat.le_of_ble_eq_true rfl) dX11_nearLevel_13 (kX11_near l D G ad had n  v2.toInt64 st q hq) (fun H locs hP hS => ?_)
  exact wX11_nearLevel_s16 C n K4 v1 v2 q.1 q.2 res hK4 hf H locs ls (lv_sub hl [0, 1, 2] rfl) hP hS
def fX11_nearLevel_s4 (n : Nat) (K4 : Int32 → Int32 → St → Option (Int32 × St))  (v1 : Int32) (v2 : Int32) (st : St) : Option (Int32 × St) := if 30 < v2 then fX11_nearLevel_s38 n v1 st else fX11_nearLevel_s10 n K4 v1 v2 st
set_option maxHeartbeats 4000000 in
set_option maxRecDepth 100000 in
theorem wX11_nearLevel_s4 (C : Cx p s m args meth c cX11_nearLevel 3 wsL_law RX11 (some .int) D G ad) (n : Nat) (K4 : Int32 → Int32 → St → Option (Int32 × St))  (v1 : Int32) (v2 : Int32)   (st : St) (res : (Int32 × St)) (hK4 : ∀ (v1 : Int32) (v2 : Int32) (st : St), K4 v1 v2 st = some res → At p l e (rmK 2) s m args below meth c D G ad (MQI D G ad below args s res) 3 st [(0, .ref (ad 130)), (1, .int v1), (2, .int v2)] 4 []) (hf : fX11_nearLevel_s4 n K4  v1 v2 st = some res) : At p l e (rmK 2) s m args below meth c D G ad (MQI D G ad below args s res) 3 st [(0, .ref (ad 130)), (1, .int v1), (2, .int v2)] 4 [] := by
  obtain ⟨hx, hb, hml, hown, hts, hr, hlk, hK, had, hSt⟩ := id C
  intro H locs ls hl hP hS
  unfold fX11_nearLevel_s4 at hf
  refine lv_iload_n hx hb dX11_nearLevel_4 rfl (lv_at hl 2 rfl) ?_
  refine lv_bipush (v := 30) hx hb dX11_nearLevel_5 (by decide) ?_
  refine lv_icmp_gt (tgt := 38) hx hb dX11_nearLevel_7 (by decide) (fun q => ?_) (fun q => ?_)
  · exact wX11_nearLevel_s38 C n v1 st res (it hf q) H locs ls (lv_sub hl [1] rfl) hP hS
  · exact wX11_nearLevel_s10 C n K4 v1 v2 st res hK4 (ie hf q) H locs ls (lv_sub hl [0, 1, 2] rfl) hP hS
def fX11_nearLevel_L4 (n : Nat)   : Nat → Int32 → Int32 → St → Option (Int32 × St)
  | 0, _, _, _ => none
  | k + 1, v1, v2, st => fX11_nearLevel_s4 n (fX11_nearLevel_L4 n k)  v1 v2 st
theorem wX11_nearLevel_L4 (C : Cx p s m args meth c cX11_nearLevel 3 wsL_law RX11 (some .int) D G ad) (n : Nat)    (res : (Int32 × St))  : ∀ (k : Nat) (v1 : Int32) (v2 : Int32)  (st : St), fX11_nearLevel_L4 n k v1 v2 st = some res → At p l e (rmK 2) s m args below meth c D G ad (MQI D G ad below args s res) 3 st [(0, .ref (ad 130)), (1, .int v1), (2, .int v2)] 4 [] := by
  intro k
  induction k with
  | zero => intro v1 v2  st h; exact absurd h (by intro q; cases q)
  | succ k ih => intro v1 v2  st h; exact wX11_nearLevel_s4 C n (fX11_nearLevel_L4 n k)  v1 v2   st res ih h
def fX11_nearLevel_s0 (n : Nat)    (st : St) : Option (Int32 × St) := fX11_nearLevel_L4 n n 0 1 st
set_option maxHeartbeats 4000000 in
set_option maxRecDepth 100000 in
theorem wX11_nearLevel_s0 (C : Cx p s m args meth c cX11_nearLevel 3 wsL_law RX11 (some .int) D G ad) (n : Nat)      (st : St) (res : (Int32 × St))  (hf : fX11_nearLevel_s0 n    st = some res) : At p l e (rmK 2) s m args below meth c D G ad (MQI D G ad below args s res) 3 st [(0, .ref (ad 130))] 0 [] := by
  obtain ⟨hx, hb, hml, hown, hts, hr, hlk, hK, had, hSt⟩ := id C
  intro H locs ls hl hP hS
  unfold fX11_nearLevel_s0 at hf
  refine lv_iconst (v := 0) hx hb dX11_nearLevel_0 (by decide) ?_
  refine lv_istore_n (lv' := [(1, .int 0), (0, .ref (ad 130))]) hx hb dX11_nearLevel_1 rfl hl (by decide) rfl (fun ls hl => ?_)
  refine lv_iconst (v := 1) hx hb dX11_nearLevel_2 (by decide) ?_
  refine lv_istore_n (lv' := [(2, .int 1), (1, .int 0), (0, .ref (ad 130))]) hx hb dX11_nearLevel_3 rfl hl (by decide) rfl (fun ls hl => ?_)
  exact wX11_nearLevel_L4 C n res n 0 1 st hf H locs ls (lv_sub hl [2, 1, 0] rfl) hP hS
def fX11_nearLevel (n : Nat)   (st : St) : Option (Int32 × St) := fX11_nearLevel_s0 n st
theorem okX11_nearLevel : okY yX11_nearLevel RX11 0 := by unfold okY; decide +kernel
end
set_option maxRecDepth 100000 in
theorem kX11_nearLevel (l : Launch) (D : va_G) (G : G3) (ad : Nat → Nat) (had : Adr ad) (n : Nat)    (st : St) (res : (Int32 × St)) (hf : fX11_nearLevel n   st = some res) {sz : Nat} : CtI l yX11_nearLevel (wsU yX11_nearLevel cX11_nearLevel 3 (some .int)) (rmK 2) D G ad sz [.ref (ad 130)] st res := by
  refine Met.ofW (cc := cX11_nearLevel) (maxL := 3) (ret := (some .int)) (by decide) rfl ?_
  intro p e s m args below meth c s₁ B hml hv
  obtain ⟨rfl, hsz, hP, hK, hSt⟩ := hv
  have hts := atoms_spec (ws := wsU yX11_nearLevel cX11_nearLevel 3 (some .int)) B.pre
  have C : Cx p s m _ meth c cX11_nearLevel 3 wsL_law RX11 (some .int) D G ad := ⟨B.exec, B.bytes, hml, findClass_of_methodNamed B.named, fun w h => hts w (List.mem_cons_of_mem _ h), B.returns, B.notSynchronized, hK, had, hSt⟩
  subst hsz
  have hl := lv_entry ([.ref (ad 130)]) (n := 3) (Nat.le_of_ble_eq_true rfl)
  rw [lg_entry_eq]
  generalize (lg_sl ([.ref (ad 130)]) ++ List.replicate (3 - (lg_sl ([.ref (ad 130)])).length) Slot.unset).toArray = ls at hl ⊢
  exact wX11_nearLevel_s0 C n     st res hf s.heap [] ls (lv_sub hl [0] rfl) hP va_S.rf
section
variable {p : Program} {l : Launch} {e : Env} {s : State} {m : MethodId} {args : Array Value} {below : List Frame} {meth : Method} {c : Code} {D : va_G} {G : G3} {ad : Nat → Nat}
def fX11_far_s89 (n : Nat)   (v3 : Int64) (st : St) : Option (Int64 × St) := some (v3, st)
set_option maxHeartbeats 4000000 in
set_option maxRecDepth 100000 in
theorem wX11_far_s89 (C : Cx p s m args meth c cX11_far 8 wsL_law RX11 (some .long) D G ad) (n : Nat)   (v3 : Int64)   (st : St) (res : (Int64 × St))  (hf : fX11_far_s89 n   v3 st = some res) : At p l e (rmK 2) s m args below meth c D G ad (MQJ D G ad below args s res) 8 st [(3, .long v3)] 89 [] := by
  obtain ⟨hx, hb, hml, hown, hts, hr, hlk, hK, had, hSt⟩ := id C
  intro H locs ls hl hP hS
  unfold fX11_far_s89 at hf
  refine lv_lload_n hx hb dX11_far_89 rfl (lv_at hl 0 rfl) ?_
  exact g_lret hx hb hr hlk hP hS dX11_far_90 hf
def fX11_far_s83 (n : Nat) (K11 : Int32 → Int32 → Int64 → Int64 → Int32 → St → Option (Int64 × St))  (v1 : Int32) (v2 : Int32) (v3 : Int64) (v5 : Int64) (v7 : Int32) (st : St) : Option (Int64 × St) := K11 v1 v2 v3 v5 (v7 + 1) st
set_option maxHeartbeats 4000000 in
set_option maxRecDepth 100000 in
theorem wX11_far_s83 (C : Cx p s m args meth c cX11_far 8 wsL_law RX11 (some .long) D G ad) (n : Nat) (K11 : Int32 → Int32 → Int64 → Int64 → Int32 → St → Option (Int64 × St))  (v1 : Int32) (v2 : Int32) (v3 : Int64) (v5 : Int64) (v7 : Int32)   (st : St) (res : (Int64 × St)) (hK11 : ∀ (v1 : Int32) (v2 : Int32) (v3 : Int64) (v5 : Int64) (v7 : Int32) (st : St), K11 v1 v2 v3 v5 v7 st = some res → At p l e (rmK 2) s m args below meth c D G ad (MQJ D G ad below args s res) 8 st [(0, .ref (ad 130)), (1, .int v1), (2, .int v2), (3, .long v3), (5, .long v5), (7, .int v7)] 11 []) (hf : fX11_far_s83 n K11  v1 v2 v3 v5 v7 st = some res) : At p l e (rmK 2) s m args below meth c D G ad (MQJ D G ad below args s res) 8 st [(0, .ref (ad 130)), (1, .int v1), (2, .int v2), (3, .long v3), (5, .long v5), (7, .int v7)] 83 [] := by
  obtain ⟨hx, hb, hml, hown, hts, hr, hlk, hK, had, hSt⟩ := id C
  intro H locs ls hl hP hS
  unfold fX11_far_s83 at hf
  refine lv_iinc (v := v7 + 1) (lv' := [(7, .int (v7 + 1)), (0, .ref (ad 130)), (1, .int v1), (2, .int v2), (3, .long v3), (5, .long v5)]) hx hb dX11_far_83 hl (k := 5) rfl rfl (by decide) rfl (fun ls hl => ?_)
  refine lv_goto (tgt := 11) hx hb dX11_far_86 (by decide) ?_
  exact hK11 v1 v2 v3 v5 (v7 + 1)  st hf H locs ls (lv_sub hl [1, 2, 3, 4, 5, 0] rfl) hP hS
def fX11_far_s79 (n : Nat) (K11 : Int32 → Int32 → Int64 → Int64 → Int32 → St → Option (Int64 × St))  (v1 : Int32) (v2 : Int32) (v5 : Int64) (v7 : Int32) (k0 : Int64) (k1 : Int64) (k2 : Int64) (k3 : Int64) (st : St) : Option (Int64 × St) := fX11_far_s83 n K11 v1 v2 (k0 + (k1 * (k2 + k3))) v5 v7 st
set_option maxHeartbeats 4000000 in
set_option maxRecDepth 100000 in
theorem wX11_far_s79 (C : Cx p s m args meth c cX11_far 8 wsL_law RX11 (some .long) D G ad) (n : Nat) (K11 : Int32 → Int32 → Int64 → Int64 → Int32 → St → Option (Int64 × St))  (v1 : Int32) (v2 : Int32) (v5 : Int64) (v7 : Int32) (k0 : Int64) (k1 : Int64) (k2 : Int64) (k3 : Int64)   (st : St) (res : (Int64 × St)) (hK11 : ∀ (v1 : Int32) (v2 : Int32) (v3 : Int64) (v5 : Int64) (v7 : Int32) (st : St), K11 v1 v2 v3 v5 v7 st = some res → At p l e (rmK 2) s m args below meth c D G ad (MQJ D G ad below args s res) 8 st [(0, .ref (ad 130)), (1, .int v1), (2, .int v2), (3, .long v3), (5, .long v5), (7, .int v7)] 11 []) (hf : fX11_far_s79 n K11  v1 v2 v5 v7 k0 k1 k2 k3 st = some res) : At p l e (rmK 2) s m args below meth c D G ad (MQJ D G ad below args s res) 8 st [(0, .ref (ad 130)), (1, .int v1), (2, .int v2), (5, .long v5), (7, .int v7)] 79 [.long k3, .long k2, .long k1, .long k0] := by
  obtain ⟨hx, hb, hml, hown, hts, hr, hlk, hK, had, hSt⟩ := id C
  intro H locs ls hl hP hS
  unfold fX11_far_s79 at hf
  refine lv_ladd hx hb dX11_far_79 ?_
  refine lv_lmul hx hb dX11_far_80 ?_
  refine lv_ladd hx hb dX11_far_81 ?_
  refine lv_lstore_n (lv' := [(3, .long (k0 + (k1 * (k2 + k3)))), (0, .ref (ad 130)), (1, .int v1), (2, .int v2), (5, .long v5), (7, .int v7)]) hx hb dX11_far_82 rfl hl (by decide) rfl (fun ls hl => ?_)
  exact wX11_far_s83 C n K11 v1 v2 (k0 + (k1 * (k2 + k3))) v5 v7 st res hK11 hf H locs ls (lv_sub hl [1, 2, 3, 0, 4, 5] rfl) hP hS
def fX11_far_s76 (n : Nat) (K11 : Int32 → Int32 → Int64 → Int64 → Int32 → St → Option (Int64 × St))  (v1 : Int32) (v2 : Int32) (v5 : Int64) (v7 : Int32) (k0 : Int64) (k1 : Int64) (k2 : Int64) (k4 : Int64) (st : St) : Option (Int64 × St) := (fX11_near n k4 st).bind (fun q => fX11_far_s79 n K11 v1 v2 v5 v7 k0 k1 k2 q.1 q.2)
set_option maxHeartbeats 4000000 in
set_option maxRecDepth 100000 in
theorem wX11_far_s76 (C : Cx p s m args meth c cX11_far 8 wsL_law RX11 (some .long) D G ad) (n : Nat) (K11 : Int32 → Int32 → Int64 → Int64 → Int32 → St → Option (Int64 × St))  (v1 : Int32) (v2 : Int32) (v5 : Int64) (v7 : Int32) (k0 : Int64) (k1 : Int64) (k2 : Int64) (k4 : Int64)   (st : St) (res : (Int64 × St)) (hK11 : ∀ (v1 : Int32) (v2 : Int32) (v3 : Int64) (v5 : Int64) (v7 : Int32) (st : St), K11 v1 v2 v3 v5 v7 st = some res → At p l e (rmK 2) s m args below meth c D G ad (MQJ D G ad below args s res) 8 st [(0, .ref (ad 130)), (1, .int v1), (2, .int v2), (3, .long v3), (5, .long v5), (7, .int v7)] 11 []) (hf : fX11_far_s76 n K11  v1 v2 v5 v7 k0 k1 k2 k4 st = some res) : At p l e (rmK 2) s m args below meth c D G ad (MQJ D G ad below args s res) 8 st [(0, .ref (ad 130)), (1, .int v1), (2, .int v2), (5, .long v5), (7, .int v7)] 76 [.long k4, .ref (ad 130), .long k2, .long k1, .long k0] := by
  obtain ⟨hx, hb, hml, hown, hts, hr, hlk, hK, had, hSt⟩ := id C
  intro H locs ls hl hP hS
  unfold fX11_far_s76 at hf
  obtain ⟨q, hq, hf⟩ := bd hf
  refine gcV_j (k := 1) (o := 130) (As := [.long k4]) (rest := [.long k2, .long k1, .long k0]) hx hb hml hown hts hK hSt hP hS hl.1 (goodV wm_43_12 wm_43_13 wm_43_14 wm_1_5 wm_43_15) okX11_near ct_130 rfl rfl (Nat.le_of_ble_eq_true rfl) (Nat.le_of_ble_eq_true rfl) rfl rfl (Nat.le_of_ble_eq_true rfl) dX11_far_76 (kX11_near l D G ad had n  k4 st q hq) (fun H locs hP hS => ?_)
  exact wX11_far_s79 C n K11 v1 v2 v5 v7 k0 k1 k2 q.1 q.2 res hK11 hf H locs ls (lv_sub hl [0, 1, 2, 3, 4] rfl) hP hS
def fX11_far_s74 (n : Nat) (K11 : Int32 → Int32 → Int64 → Int64 → Int32 → St → Option (Int64 × St))  (v1 : Int32) (v2 : Int32) (v5 : Int64) (v7 : Int32) (k0 : Int64) (k1 : Int64) (k2 : Int64) (st : St) : Option (Int64 × St) := fX11_far_s76 n K11 v1 v2 v5 v7 k0 k1 k2 v2.toInt64 st
set_option maxHeartbeats 4000000 in
set_option maxRecDepth 100000 in
theorem wX11_far_s74 (C : Cx p s m args meth c cX11_far 8 wsL_law RX11 (some .long) D G ad) (n : Nat) (K11 : Int32 → Int32 → Int64 → Int64 → Int32 → St → Option (Int64 × St))  (v1 : Int32) (v2 : Int32) (v5 : Int64) (v7 : Int32) (k0 : Int64) (k1 : Int64) (k2 : Int64)   (st : St) (res : (Int64 × St)) (hK11 : ∀ (v1 : Int32) (v2 : Int32) (v3 : Int64) (v5 : Int64) (v7 : Int32) (st : St), K11 v1 v2 v3 v5 v7 st = some res → At p l e (rmK 2) s m args below meth c D G ad (MQJ D G ad below args s res) 8 st [(0, .ref (ad 130)), (1, .int v1), (2, .int v2), (3, .long v3), (5, .long v5), (7, .int v7)] 11 []) (hf : fX11_far_s74 n K11  v1 v2 v5 v7 k0 k1 k2 st = some res) : At p l e (rmK 2) s m args below meth c D G ad (MQJ D G ad below args s res) 8 st [(0, .ref (ad 130)), (1, .int v1), (2, .int v2), (5, .long v5), (7, .int v7)] 74 [.ref (ad 130), .long k2, .long k1, .long k0] := by
  obtain ⟨hx, hb, hml, hown, hts, hr, hlk, hK, had, hSt⟩ := id C
  intro H locs ls hl hP hS
  unfold fX11_far_s74 at hf
  refine lv_iload_n hx hb dX11_far_74 rfl (lv_at hl 2 rfl) ?_
  refine lv_i2l hx hb dX11_far_75 rfl ?_
  exact wX11_far_s76 C n K11 v1 v2 v5 v7 k0 k1 k2 v2.toInt64 st res hK11 hf H locs ls (lv_sub hl [0, 1, 2, 3, 4] rfl) hP hS
def fX11_far_s66 (n : Nat) (K11 : Int32 → Int32 → Int64 → Int64 → Int32 → St → Option (Int64 × St))  (v1 : Int32) (v2 : Int32) (v5 : Int64) (v7 : Int32) (k0 : Int64) (k1 : Int64) (k2 : Int64) (st : St) : Option (Int64 × St) := fX11_far_s76 n K11 v1 v2 v5 v7 k0 k1 k2 ((v1 - v7).toInt64) st
set_option maxHeartbeats 4000000 in
set_option maxRecDepth 100000 in
theorem wX11_far_s66 (C : Cx p s m args meth c cX11_far 8 wsL_law RX11 (some .long) D G ad) (n : Nat) (K11 : Int32 → Int32 → Int64 → Int64 → Int32 → St → Option (Int64 × St))  (v1 : Int32) (v2 : Int32) (v5 : Int64) (v7 : Int32) (k0 : Int64) (k1 : Int64) (k2 : Int64)   (st : St) (res : (Int64 × St)) (hK11 : ∀ (v1 : Int32) (v2 : Int32) (v3 : Int64) (v5 : Int64) (v7 : Int32) (st : St), K11 v1 v2 v3 v5 v7 st = some res → At p l e (rmK 2) s m args below meth c D G ad (MQJ D G ad below args s res) 8 st [(0, .ref (ad 130)), (1, .int v1), (2, .int v2), (3, .long v3), (5, .long v5), (7, .int v7)] 11 []) (hf : fX11_far_s66 n K11  v1 v2 v5 v7 k0 k1 k2 st = some res) : At p l e (rmK 2) s m args below meth c D G ad (MQJ D G ad below args s res) 8 st [(0, .ref (ad 130)), (1, .int v1), (2, .int v2), (5, .long v5), (7, .int v7)] 66 [.ref (ad 130), .long k2, .long k1, .long k0] := by
  obtain ⟨hx, hb, hml, hown, hts, hr, hlk, hK, had, hSt⟩ := id C
  intro H locs ls hl hP hS
  unfold fX11_far_s66 at hf
  refine lv_iload_n hx hb dX11_far_66 rfl (lv_at hl 1 rfl) ?_
  refine lv_iload hx hb dX11_far_67 (lv_at hl 4 rfl) ?_
  refine lv_isub hx hb dX11_far_69 ?_
  refine lv_i2l hx hb dX11_far_70 rfl ?_
  refine lv_goto (tgt := 76) hx hb dX11_far_71 (by decide) ?_
  exact wX11_far_s76 C n K11 v1 v2 v5 v7 k0 k1 k2 ((v1 - v7).toInt64) st res hK11 hf H locs ls (lv_sub hl [0, 1, 2, 3, 4] rfl) hP hS
def fX11_far_s33 (n : Nat) (K11 : Int32 → Int32 → Int64 → Int64 → Int32 → St → Option (Int64 × St))  (v1 : Int32) (v2 : Int32) (v3 : Int64) (v5 : Int64) (v7 : Int32) (st : St) : Option (Int64 × St) := if inb (25 + v7) 50 = true then (if v2 ≤ (v1 - v7) then fX11_far_s74 n K11 v1 v2 v5 v7 v3 (st.2 166 (25 + v7).toNatClampNeg) (((st.2 130 64) * ((v1 - v7).toInt64)) * v5) st else fX11_far_s66 n K11 v1 v2 v5 v7 v3 (st.2 166 (25 + v7).toNatClampNeg) (((st.2 130 64) * ((v1 - v7).toInt64)) * v5) st) else none
set_option maxHeartbeats 4000000 in
set_option maxRecDepth 100000 in
theorem wX11_far_s33 (C : Cx p s m args meth c cX11_far 8 wsL_law RX11 (some .long) D G ad) (n : Nat) (K11 : Int32 → Int32 → Int64 → Int64 → Int32 → St → Option (Int64 × St))  (v1 : Int32) (v2 : Int32) (v3 : Int64) (v5 : Int64) (v7 : Int32)   (st : St) (res : (Int64 × St)) (hK11 : ∀ (v1 : Int32) (v2 : Int32) (v3 : Int64) (v5 : Int64) (v7 : Int32) (st : St), K11 v1 v2 v3 v5 v7 st = some res → At p l e (rmK 2) s m args below meth c D G ad (MQJ D G ad below args s res) 8 st [(0, .ref (ad 130)), (1, .int v1), (2, .int v2), (3, .long v3), (5, .long v5), (7, .int v7)] 11 []) (hf : fX11_far_s33 n K11  v1 v2 v3 v5 v7 st = some res) : At p l e (rmK 2) s m args below meth c D G ad (MQJ D G ad below args s res) 8 st [(0, .ref (ad 130)), (1, .int v1), (2, .int v2), (3, .long v3), (5, .long v5), (7, .int v7)] 33 [] := by
  obtain ⟨hx, hb, hml, hown, hts, hr, hlk, hK, had, hSt⟩ := id C
  intro H locs ls hl hP hS
  unfold fX11_far_s33 at hf
  refine lv_lload_n hx hb dX11_far_33 rfl (lv_at hl 3 rfl) ?_
  refine lv_aload_n hx hb dX11_far_34 rfl (lv_at hl 0 rfl) ?_
  refine g_getR hx hb hts inlX11 hown hK hP 130 ct_130 rfl 59 (by decide) (hts _ wm_8_18) rfl dX11_far_35 ?_
  refine lv_bipush (v := 25) hx hb dX11_far_38 (by decide) ?_
  refine lv_iload hx hb dX11_far_40 (lv_at hl 5 rfl) ?_
  refine lv_iadd hx hb dX11_far_42 ?_
  obtain ⟨g1, hf⟩ := gd hf
  refine g_lald hx hb hK hP 166 ct_166 g1 dX11_far_43 ?_
  refine lv_aload_n hx hb dX11_far_44 rfl (lv_at hl 0 rfl) ?_
  refine g_getJ hx hb hts inlX11 hown hK hP 130 ct_130 rfl 64 (by decide) (hts _ wm_43_5) rfl dX11_far_45 ?_
  refine lv_iload_n hx hb dX11_far_48 rfl (lv_at hl 1 rfl) ?_
  refine lv_iload hx hb dX11_far_49 (lv_at hl 5 rfl) ?_
  refine lv_isub hx hb dX11_far_51 ?_
  refine lv_i2l hx hb dX11_far_52 rfl ?_
  refine lv_lmul hx hb dX11_far_53 ?_
  refine lv_lload hx hb dX11_far_54 (lv_at hl 4 rfl) ?_
  refine lv_lmul hx hb dX11_far_56 ?_
  refine lv_aload_n hx hb dX11_far_57 rfl (lv_at hl 0 rfl) ?_
  refine lv_iload_n hx hb dX11_far_58 rfl (lv_at hl 1 rfl) ?_
  refine lv_iload hx hb dX11_far_59 (lv_at hl 5 rfl) ?_
  refine lv_isub hx hb dX11_far_61 ?_
  refine lv_iload_n hx hb dX11_far_62 rfl (lv_at hl 2 rfl) ?_
  refine lv_icmp_ge (tgt := 74) hx hb dX11_far_63 (by decide) (fun q => ?_) (fun q => ?_)
  · exact wX11_far_s74 C n K11 v1 v2 v5 v7 v3 (st.2 166 (25 + v7).toNatClampNeg) (((st.2 130 64) * ((v1 - v7).toInt64)) * v5) st res hK11 (it hf q) H locs ls (lv_sub hl [0, 1, 2, 4, 5] rfl) hP hS
  · exact wX11_far_s66 C n K11 v1 v2 v5 v7 v3 (st.2 166 (25 + v7).toNatClampNeg) (((st.2 130 64) * ((v1 - v7).toInt64)) * v5) st res hK11 (ie hf q) H locs ls (lv_sub hl [0, 1, 2, 4, 5] rfl) hP hS
def fX11_far_s18 (n : Nat) (K11 : Int32 → Int32 → Int64 → Int64 → Int32 → St → Option (Int64 × St))  (v1 : Int32) (v2 : Int32) (v3 : Int64) (v5 : Int64) (v7 : Int32) (st : St) : Option (Int64 × St) := if inb (25 + v7) 50 = true then (if (st.2 166 (25 + v7).toNatClampNeg) ≤ 0 then fX11_far_s83 n K11 v1 v2 v3 v5 v7 st else fX11_far_s33 n K11 v1 v2 v3 v5 v7 st) else none
set_option maxHeartbeats 4000000 in
set_option maxRecDepth 100000 in
theorem wX11_far_s18 (C : Cx p s m args meth c cX11_far 8 wsL_law RX11 (some .long) D G ad) (n : Nat) (K11 : Int32 → Int32 → Int64 → Int64 → Int32 → St → Option (Int64 × St))  (v1 : Int32) (v2 : Int32) (v3 : Int64) (v5 : Int64) (v7 : Int32)   (st : St) (res : (Int64 × St)) (hK11 : ∀ (v1 : Int32) (v2 : Int32) (v3 : Int64) (v5 : Int64) (v7 : Int32) (st : St), K11 v1 v2 v3 v5 v7 st = some res → At p l e (rmK 2) s m args below meth c D G ad (MQJ D G ad below args s res) 8 st [(0, .ref (ad 130)), (1, .int v1), (2, .int v2), (3, .long v3), (5, .long v5), (7, .int v7)] 11 []) (hf : fX11_far_s18 n K11  v1 v2 v3 v5 v7 st = some res) : At p l e (rmK 2) s m args below meth c D G ad (MQJ D G ad below args s res) 8 st [(0, .ref (ad 130)), (1, .int v1), (2, .int v2), (3, .long v3), (5, .long v5), (7, .int v7)] 18 [] := by
  obtain ⟨hx, hb, hml, hown, hts, hr, hlk, hK, had, hSt⟩ := id C
  intro H locs ls hl hP hS
  unfold fX11_far_s18 at hf
  refine lv_aload_n hx hb dX11_far_18 rfl (lv_at hl 0 rfl) ?_
  refine g_getR hx hb hts inlX11 hown hK hP 130 ct_130 rfl 59 (by decide) (hts _ wm_8_18) rfl dX11_far_19 ?_
  refine lv_bipush (v := 25) hx hb dX11_far_22 (by decide) ?_
  refine lv_iload hx hb dX11_far_24 (lv_at hl 5 rfl) ?_
  refine lv_iadd hx hb dX11_far_26 ?_
  obtain ⟨g1, hf⟩ := gd hf
  refine g_lald hx hb hK hP 166 ct_166 g1 dX11_far_27 ?_
  refine lv_lconst (v := 0) hx hb dX11_far_28 (by decide) ?_
  refine g_lcmp_le (tgt := 83) hx hb dX11_far_29 dX11_far_30 (by decide) (fun q => ?_) (fun q => ?_)
  · exact wX11_far_s83 C n K11 v1 v2 v3 v5 v7 st res hK11 (it hf q) H locs ls (lv_sub hl [0, 1, 2, 3, 4, 5] rfl) hP hS
  · exact wX11_far_s33 C n K11 v1 v2 v3 v5 v7 st res hK11 (ie hf q) H locs ls (lv_sub hl [0, 1, 2, 3, 4, 5] rfl) hP hS
def fX11_far_s11 (n : Nat) (K11 : Int32 → Int32 → Int64 → Int64 → Int32 → St → Option (Int64 × St))  (v1 : Int32) (v2 : Int32) (v3 : Int64) (v5 : Int64) (v7 : Int32) (st : St) : Option (Int64 × St) := if 25 ≤ v7 then fX11_far_s89 n v3 st else fX11_far_s18 n K11 v1 v2 v3 v5 v7 st
set_option maxHeartbeats 4000000 in
set_option maxRecDepth 100000 in
theorem wX11_far_s11 (C : Cx p s m args meth c cX11_far 8 wsL_law RX11 (some .long) D G ad) (n : Nat) (K11 : Int32 → Int32 → Int64 → Int64 → Int32 → St → Option (Int64 × St))  (v1 : Int32) (v2 : Int32) (v3 : Int64) (v5 : Int64) (v7 : Int32)   (st : St) (res : (Int64 × St)) (hK11 : ∀ (v1 : Int32) (v2 : Int32) (v3 : Int64) (v5 : Int64) (v7 : Int32) (st : St), K11 v1 v2 v3 v5 v7 st = some res → At p l e (rmK 2) s m args below meth c D G ad (MQJ D G ad below args s res) 8 st [(0, .ref (ad 130)), (1, .int v1), (2, .int v2), (3, .long v3), (5, .long v5), (7, .int v7)] 11 []) (hf : fX11_far_s11 n K11  v1 v2 v3 v5 v7 st = some res) : At p l e (rmK 2) s m args below meth c D G ad (MQJ D G ad below args s res) 8 st [(0, .ref (ad 130)), (1, .int v1), (2, .int v2), (3, .long v3), (5, .long v5), (7, .int v7)] 11 [] := by
  obtain ⟨hx, hb, hml, hown, hts, hr, hlk, hK, had, hSt⟩ := id C
  intro H locs ls hl hP hS
  unfold fX11_far_s11 at hf
  refine lv_iload hx hb dX11_far_11 (lv_at hl 5 rfl) ?_
  refine lv_bipush (v := 25) hx hb dX11_far_13 (by decide) ?_
  refine lv_icmp_ge (tgt := 89) hx hb dX11_far_15 (by decide) (fun q => ?_) (fun q => ?_)
  · exact wX11_far_s89 C n v3 st res (it hf q) H locs ls (lv_sub hl [3] rfl) hP hS
  · exact wX11_far_s18 C n K11 v1 v2 v3 v5 v7 st res hK11 (ie hf q) H locs ls (lv_sub hl [0, 1, 2, 3, 4, 5] rfl) hP hS
def fX11_far_L11 (n : Nat)   : Nat → Int32 → Int32 → Int64 → Int64 → Int32 → St → Option (Int64 × St)
  | 0, _, _, _, _, _, _ => none
  | k + 1, v1, v2, v3, v5, v7, st => fX11_far_s11 n (fX11_far_L11 n k)  v1 v2 v3 v5 v7 st
theorem wX11_far_L11 (C : Cx p s m args meth c cX11_far 8 wsL_law RX11 (some .long) D G ad) (n : Nat)    (res : (Int64 × St))  : ∀ (k : Nat) (v1 : Int32) (v2 : Int32) (v3 : Int64) (v5 : Int64) (v7 : Int32)  (st : St), fX11_far_L11 n k v1 v2 v3 v5 v7 st = some res → At p l e (rmK 2) s m args below meth c D G ad (MQJ D G ad below args s res) 8 st [(0, .ref (ad 130)), (1, .int v1), (2, .int v2), (3, .long v3), (5, .long v5), (7, .int v7)] 11 [] := by
  intro k
  induction k with
  | zero => intro v1 v2 v3 v5 v7  st h; exact absurd h (by intro q; cases q)
  | succ k ih => intro v1 v2 v3 v5 v7  st h; exact wX11_far_s11 C n (fX11_far_L11 n k)  v1 v2 v3 v5 v7   st res ih h
def fX11_far_s6 (n : Nat)   (v1 : Int32) (v2 : Int32) (v3 : Int64) (k0 : Int64) (st : St) : Option (Int64 × St) := fX11_far_L11 n n v1 v2 v3 k0 0 st
set_option maxHeartbeats 4000000 in
set_option maxRecDepth 100000 in
theorem wX11_far_s6 (C : Cx p s m args meth c cX11_far 8 wsL_law RX11 (some .long) D G ad) (n : Nat)   (v1 : Int32) (v2 : Int32) (v3 : Int64) (k0 : Int64)   (st : St) (res : (Int64 × St))  (hf : fX11_far_s6 n   v1 v2 v3 k0 st = some res) : At p l e (rmK 2) s m args below meth c D G ad (MQJ D G ad below args s res) 8 st [(0, .ref (ad 130)), (1, .int v1), (2, .int v2), (3, .long v3)] 6 [.long k0] := by
  obtain ⟨hx, hb, hml, hown, hts, hr, hlk, hK, had, hSt⟩ := id C
  intro H locs ls hl hP hS
  unfold fX11_far_s6 at hf
  refine lv_lstore (lv' := [(5, .long k0), (0, .ref (ad 130)), (1, .int v1), (2, .int v2), (3, .long v3)]) hx hb dX11_far_6 hl (by decide) rfl (fun ls hl => ?_)
  refine lv_iconst (v := 0) hx hb dX11_far_8 (by decide) ?_
  refine lv_istore (lv' := [(7, .int 0), (5, .long k0), (0, .ref (ad 130)), (1, .int v1), (2, .int v2), (3, .long v3)]) hx hb dX11_far_9 hl (by decide) rfl (fun ls hl => ?_)
  exact wX11_far_L11 C n res n v1 v2 v3 k0 0 st hf H locs ls (lv_sub hl [2, 3, 4, 5, 1, 0] rfl) hP hS
def fX11_far_s0 (n : Nat)   (v1 : Int32) (v2 : Int32) (st : St) : Option (Int64 × St) := (fX11_allNear n st).bind (fun q => fX11_far_s6 n v1 v2 0 q.1 q.2)
set_option maxHeartbeats 4000000 in
set_option maxRecDepth 100000 in
theorem wX11_far_s0 (C : Cx p s m args meth c cX11_far 8 wsL_law RX11 (some .long) D G ad) (n : Nat)   (v1 : Int32) (v2 : Int32)   (st : St) (res : (Int64 × St))  (hf : fX11_far_s0 n   v1 v2 st = some res) : At p l e (rmK 2) s m args below meth c D G ad (MQJ D G ad below args s res) 8 st [(0, .ref (ad 130)), (1, .int v1), (2, .int v2)] 0 [] := by
  obtain ⟨hx, hb, hml, hown, hts, hr, hlk, hK, had, hSt⟩ := id C
  intro H locs ls hl hP hS
  unfold fX11_far_s0 at hf
  refine lv_lconst (v := 0) hx hb dX11_far_0 (by decide) ?_
  refine lv_lstore_n (lv' := [(3, .long 0), (0, .ref (ad 130)), (1, .int v1), (2, .int v2)]) hx hb dX11_far_1 rfl hl (by decide) rfl (fun ls hl => ?_)
  refine lv_aload_n hx hb dX11_far_2 rfl (lv_at hl 1 rfl) ?_
  obtain ⟨q, hq, hf⟩ := bd hf
  refine gcV_j (k := 0) (o := 130) (As := []) (rest := []) hx hb hml hown hts hK hSt hP hS hl.1 (goodV wm_43_17 wm_43_18 wm_43_19 wm_1_5 wm_43_20) okX11_allNear ct_130 rfl rfl (Nat.le_of_ble_eq_true rfl) (Nat.le_of_ble_eq_true rfl) rfl rfl (Nat.le_of_ble_eq_true rfl) dX11_far_3 (kX11_allNear l D G ad had n   st q hq) (fun H locs hP hS => ?_)
  exact wX11_far_s6 C n v1 v2 0 q.1 q.2 res hf H locs ls (lv_sub hl [1, 2, 3, 0] rfl) hP hS
def fX11_far (n : Nat)  (a1 : Int32) (a2 : Int32) (st : St) : Option (Int64 × St) := fX11_far_s0 n a1 a2 st
theorem okX11_far : okY yX11_far RX11 2 := by unfold okY; decide +kernel
end
set_option maxRecDepth 100000 in
theorem kX11_far (l : Launch) (D : va_G) (G : G3) (ad : Nat → Nat) (had : Adr ad) (n : Nat)   (a1 : Int32) (a2 : Int32) (st : St) (res : (Int64 × St)) (hf : fX11_far n  a1 a2 st = some res) {sz : Nat} : CtJ l yX11_far (wsU yX11_far cX11_far 8 (some .long)) (rmK 2) D G ad sz [.ref (ad 130), .int a1, .int a2] st res := by
  refine Met.ofW (cc := cX11_far) (maxL := 8) (ret := (some .long)) (by decide) rfl ?_
  intro p e s m args below meth c s₁ B hml hv
  obtain ⟨rfl, hsz, hP, hK, hSt⟩ := hv
  have hts := atoms_spec (ws := wsU yX11_far cX11_far 8 (some .long)) B.pre
  have C : Cx p s m _ meth c cX11_far 8 wsL_law RX11 (some .long) D G ad := ⟨B.exec, B.bytes, hml, findClass_of_methodNamed B.named, fun w h => hts w (List.mem_cons_of_mem _ h), B.returns, B.notSynchronized, hK, had, hSt⟩
  subst hsz
  have hl := lv_entry ([.ref (ad 130), .int a1, .int a2]) (n := 8) (Nat.le_of_ble_eq_true rfl)
  rw [lg_entry_eq]
  generalize (lg_sl ([.ref (ad 130), .int a1, .int a2]) ++ List.replicate (8 - (lg_sl ([.ref (ad 130), .int a1, .int a2])).length) Slot.unset).toArray = ls at hl ⊢
  exact wX11_far_s0 C n  a1 a2   st res hf s.heap [] ls (lv_sub hl [0, 1, 2] rfl) hP va_S.rf
section
variable {p : Program} {l : Launch} {e : Env} {s : State} {m : MethodId} {args : Array Value} {below : List Frame} {meth : Method} {c : Code} {D : va_G} {G : G3} {ad : Nat → Nat}
def fX11_level_s91 (n : Nat)   (v5 : Int32) (st : St) : Option (Int32 × St) := some (v5, st)
set_option maxHeartbeats 4000000 in
set_option maxRecDepth 100000 in
theorem wX11_level_s91 (C : Cx p s m args meth c cX11_level 11 wsL_law RX11 (some .int) D G ad) (n : Nat)   (v5 : Int32)   (st : St) (res : (Int32 × St))  (hf : fX11_level_s91 n   v5 st = some res) : At p l e (rmK 3) s m args below meth c D G ad (MQI D G ad below args s res) 11 st [(5, .int v5)] 91 [] := by
  obtain ⟨hx, hb, hml, hown, hts, hr, hlk, hK, had, hSt⟩ := id C
  intro H locs ls hl hP hS
  unfold fX11_level_s91 at hf
  refine lv_iload hx hb dX11_level_91 (lv_at hl 0 rfl) ?_
  exact g_iret hx hb hr hlk hP hS dX11_level_93 hf
def fX11_level_s85 (n : Nat) (K52 : Int32 → Int32 → Int64 → Int32 → St → Option (Int32 × St))  (v4 : Int32) (v5 : Int32) (v6 : Int64) (v8 : Int32) (st : St) : Option (Int32 × St) := K52 v4 v5 v6 (v8 + 1) st
set_option maxHeartbeats 4000000 in
set_option maxRecDepth 100000 in
theorem wX11_level_s85 (C : Cx p s m args meth c cX11_level 11 wsL_law RX11 (some .int) D G ad) (n : Nat) (K52 : Int32 → Int32 → Int64 → Int32 → St → Option (Int32 × St))  (v4 : Int32) (v5 : Int32) (v6 : Int64) (v8 : Int32)   (st : St) (res : (Int32 × St)) (hK52 : ∀ (v4 : Int32) (v5 : Int32) (v6 : Int64) (v8 : Int32) (st : St), K52 v4 v5 v6 v8 st = some res → At p l e (rmK 3) s m args below meth c D G ad (MQI D G ad below args s res) 11 st [(0, .ref (ad 130)), (4, .int v4), (5, .int v5), (6, .long v6), (8, .int v8)] 52 []) (hf : fX11_level_s85 n K52  v4 v5 v6 v8 st = some res) : At p l e (rmK 3) s m args below meth c D G ad (MQI D G ad below args s res) 11 st [(0, .ref (ad 130)), (4, .int v4), (5, .int v5), (6, .long v6), (8, .int v8)] 85 [] := by
  obtain ⟨hx, hb, hml, hown, hts, hr, hlk, hK, had, hSt⟩ := id C
  intro H locs ls hl hP hS
  unfold fX11_level_s85 at hf
  refine lv_iinc (v := v8 + 1) (lv' := [(8, .int (v8 + 1)), (0, .ref (ad 130)), (4, .int v4), (5, .int v5), (6, .long v6)]) hx hb dX11_level_85 hl (k := 4) rfl rfl (by decide) rfl (fun ls hl => ?_)
  refine lv_goto (tgt := 52) hx hb dX11_level_88 (by decide) ?_
  exact hK52 v4 v5 v6 (v8 + 1)  st hf H locs ls (lv_sub hl [1, 2, 3, 4, 0] rfl) hP hS
def fX11_level_s77 (n : Nat) (K52 : Int32 → Int32 → Int64 → Int32 → St → Option (Int32 × St))  (v4 : Int32) (v8 : Int32) (v9 : Int64) (st : St) : Option (Int32 × St) := fX11_level_s85 n K52 v4 v8 v9 v8 st
set_option maxHeartbeats 4000000 in
set_option maxRecDepth 100000 in
theorem wX11_level_s77 (C : Cx p s m args meth c cX11_level 11 wsL_law RX11 (some .int) D G ad) (n : Nat) (K52 : Int32 → Int32 → Int64 → Int32 → St → Option (Int32 × St))  (v4 : Int32) (v8 : Int32) (v9 : Int64)   (st : St) (res : (Int32 × St)) (hK52 : ∀ (v4 : Int32) (v5 : Int32) (v6 : Int64) (v8 : Int32) (st : St), K52 v4 v5 v6 v8 st = some res → At p l e (rmK 3) s m args below meth c D G ad (MQI D G ad below args s res) 11 st [(0, .ref (ad 130)), (4, .int v4), (5, .int v5), (6, .long v6), (8, .int v8)] 52 []) (hf : fX11_level_s77 n K52  v4 v8 v9 st = some res) : At p l e (rmK 3) s m args below meth c D G ad (MQI D G ad below args s res) 11 st [(0, .ref (ad 130)), (4, .int v4), (8, .int v8), (9, .long v9)] 77 [] := by
  obtain ⟨hx, hb, hml, hown, hts, hr, hlk, hK, had, hSt⟩ := id C
  intro H locs ls hl hP hS
  unfold fX11_level_s77 at hf
  refine lv_lload hx hb dX11_level_77 (lv_at hl 3 rfl) ?_
  refine lv_lstore (lv' := [(6, .long v9), (0, .ref (ad 130)), (4, .int v4), (8, .int v8), (9, .long v9)]) hx hb dX11_level_79 hl (by decide) rfl (fun ls hl => ?_)
  refine lv_iload hx hb dX11_level_81 (lv_at hl 3 rfl) ?_
  refine lv_istore (lv' := [(5, .int v8), (6, .long v9), (0, .ref (ad 130)), (4, .int v4), (8, .int v8), (9, .long v9)]) hx hb dX11_level_83 hl (by decide) rfl (fun ls hl => ?_)
  exact wX11_level_s85 C n K52 v4 v8 v9 v8 st res hK52 hf H locs ls (lv_sub hl [2, 3, 0, 1, 4] rfl) hP hS
def fX11_level_s67 (n : Nat) (K52 : Int32 → Int32 → Int64 → Int32 → St → Option (Int32 × St))  (v4 : Int32) (v5 : Int32) (v6 : Int64) (v8 : Int32) (k0 : Int64) (st : St) : Option (Int32 × St) := if v6 ≤ k0 then fX11_level_s85 n K52 v4 v5 v6 v8 st else fX11_level_s77 n K52 v4 v8 k0 st
set_option maxHeartbeats 4000000 in
set_option maxRecDepth 100000 in
theorem wX11_level_s67 (C : Cx p s m args meth c cX11_level 11 wsL_law RX11 (some .int) D G ad) (n : Nat) (K52 : Int32 → Int32 → Int64 → Int32 → St → Option (Int32 × St))  (v4 : Int32) (v5 : Int32) (v6 : Int64) (v8 : Int32) (k0 : Int64)   (st : St) (res : (Int32 × St)) (hK52 : ∀ (v4 : Int32) (v5 : Int32) (v6 : Int64) (v8 : Int32) (st : St), K52 v4 v5 v6 v8 st = some res → At p l e (rmK 3) s m args below meth c D G ad (MQI D G ad below args s res) 11 st [(0, .ref (ad 130)), (4, .int v4), (5, .int v5), (6, .long v6), (8, .int v8)] 52 []) (hf : fX11_level_s67 n K52  v4 v5 v6 v8 k0 st = some res) : At p l e (rmK 3) s m args below meth c D G ad (MQI D G ad below args s res) 11 st [(0, .ref (ad 130)), (4, .int v4), (5, .int v5), (6, .long v6), (8, .int v8)] 67 [.long k0] := by
  obtain ⟨hx, hb, hml, hown, hts, hr, hlk, hK, had, hSt⟩ := id C
  intro H locs ls hl hP hS
  unfold fX11_level_s67 at hf
  refine lv_lstore (lv' := [(9, .long k0), (0, .ref (ad 130)), (4, .int v4), (5, .int v5), (6, .long v6), (8, .int v8)]) hx hb dX11_level_67 hl (by decide) rfl (fun ls hl => ?_)
  refine lv_lload hx hb dX11_level_69 (lv_at hl 0 rfl) ?_
  refine lv_lload hx hb dX11_level_71 (lv_at hl 4 rfl) ?_
  refine g_lcmp_ge (tgt := 85) hx hb dX11_level_73 dX11_level_74 (by decide) (fun q => ?_) (fun q => ?_)
  · exact wX11_level_s85 C n K52 v4 v5 v6 v8 st res hK52 (it hf q) H locs ls (lv_sub hl [1, 2, 3, 4, 5] rfl) hP hS
  · exact wX11_level_s77 C n K52 v4 v8 k0 st res hK52 (ie hf q) H locs ls (lv_sub hl [1, 2, 5, 0] rfl) hP hS
def fX11_level_s59 (n : Nat) (K52 : Int32 → Int32 → Int64 → Int32 → St → Option (Int32 × St))  (v4 : Int32) (v5 : Int32) (v6 : Int64) (v8 : Int32) (st : St) : Option (Int32 × St) := (fX11_far n v8 v4 st).bind (fun q => fX11_level_s67 n K52 v4 v5 v6 v8 q.1 q.2)
set_option maxHeartbeats 4000000 in
set_option maxRecDepth 100000 in
theorem wX11_level_s59 (C : Cx p s m args meth c cX11_level 11 wsL_law RX11 (some .int) D G ad) (n : Nat) (K52 : Int32 → Int32 → Int64 → Int32 → St → Option (Int32 × St))  (v4 : Int32) (v5 : Int32) (v6 : Int64) (v8 : Int32)   (st : St) (res : (Int32 × St)) (hK52 : ∀ (v4 : Int32) (v5 : Int32) (v6 : Int64) (v8 : Int32) (st : St), K52 v4 v5 v6 v8 st = some res → At p l e (rmK 3) s m args below meth c D G ad (MQI D G ad below args s res) 11 st [(0, .ref (ad 130)), (4, .int v4), (5, .int v5), (6, .long v6), (8, .int v8)] 52 []) (hf : fX11_level_s59 n K52  v4 v5 v6 v8 st = some res) : At p l e (rmK 3) s m args below meth c D G ad (MQI D G ad below args s res) 11 st [(0, .ref (ad 130)), (4, .int v4), (5, .int v5), (6, .long v6), (8, .int v8)] 59 [] := by
  obtain ⟨hx, hb, hml, hown, hts, hr, hlk, hK, had, hSt⟩ := id C
  intro H locs ls hl hP hS
  unfold fX11_level_s59 at hf
  refine lv_aload_n hx hb dX11_level_59 rfl (lv_at hl 0 rfl) ?_
  refine lv_iload hx hb dX11_level_60 (lv_at hl 4 rfl) ?_
  refine lv_iload hx hb dX11_level_62 (lv_at hl 1 rfl) ?_
  obtain ⟨q, hq, hf⟩ := bd hf
  refine gcV_j (k := 2) (o := 130) (As := [.int v8, .int v4]) (rest := []) hx hb hml hown hts hK hSt hP hS hl.1 (goodV wm_43_21 wm_43_22 wm_43_23 wm_1_5 wm_44_0) okX11_far ct_130 rfl rfl (Nat.le_of_ble_eq_true rfl) (Nat.le_of_ble_eq_true rfl) rfl rfl (Nat.le_of_ble_eq_true rfl) dX11_level_64 (kX11_far l D G ad had n  v8 v4 st q hq) (fun H locs hP hS => ?_)
  exact wX11_level_s67 C n K52 v4 v5 v6 v8 q.1 q.2 res hK52 hf H locs ls (lv_sub hl [0, 1, 2, 3, 4] rfl) hP hS
def fX11_level_s52 (n : Nat) (K52 : Int32 → Int32 → Int64 → Int32 → St → Option (Int32 × St))  (v4 : Int32) (v5 : Int32) (v6 : Int64) (v8 : Int32) (st : St) : Option (Int32 × St) := if 30 < v8 then fX11_level_s91 n v5 st else fX11_level_s59 n K52 v4 v5 v6 v8 st
set_option maxHeartbeats 4000000 in
set_option maxRecDepth 100000 in
theorem wX11_level_s52 (C : Cx p s m args meth c cX11_level 11 wsL_law RX11 (some .int) D G ad) (n : Nat) (K52 : Int32 → Int32 → Int64 → Int32 → St → Option (Int32 × St))  (v4 : Int32) (v5 : Int32) (v6 : Int64) (v8 : Int32)   (st : St) (res : (Int32 × St)) (hK52 : ∀ (v4 : Int32) (v5 : Int32) (v6 : Int64) (v8 : Int32) (st : St), K52 v4 v5 v6 v8 st = some res → At p l e (rmK 3) s m args below meth c D G ad (MQI D G ad below args s res) 11 st [(0, .ref (ad 130)), (4, .int v4), (5, .int v5), (6, .long v6), (8, .int v8)] 52 []) (hf : fX11_level_s52 n K52  v4 v5 v6 v8 st = some res) : At p l e (rmK 3) s m args below meth c D G ad (MQI D G ad below args s res) 11 st [(0, .ref (ad 130)), (4, .int v4), (5, .int v5), (6, .long v6), (8, .int v8)] 52 [] := by
  obtain ⟨hx, hb, hml, hown, hts, hr, hlk, hK, had, hSt⟩ := id C
  intro H locs ls hl hP hS
  unfold fX11_level_s52 at hf
  refine lv_iload hx hb dX11_level_52 (lv_at hl 4 rfl) ?_
  refine lv_bipush (v := 30) hx hb dX11_level_54 (by decide) ?_
  refine lv_icmp_gt (tgt := 91) hx hb dX11_level_56 (by decide) (fun q => ?_) (fun q => ?_)
  · exact wX11_level_s91 C n v5 st res (it hf q) H locs ls (lv_sub hl [2] rfl) hP hS
  · exact wX11_level_s59 C n K52 v4 v5 v6 v8 st res hK52 (ie hf q) H locs ls (lv_sub hl [0, 1, 2, 3, 4] rfl) hP hS
def fX11_level_L52 (n : Nat)   : Nat → Int32 → Int32 → Int64 → Int32 → St → Option (Int32 × St)
  | 0, _, _, _, _, _ => none
  | k + 1, v4, v5, v6, v8, st => fX11_level_s52 n (fX11_level_L52 n k)  v4 v5 v6 v8 st
theorem wX11_level_L52 (C : Cx p s m args meth c cX11_level 11 wsL_law RX11 (some .int) D G ad) (n : Nat)    (res : (Int32 × St))  : ∀ (k : Nat) (v4 : Int32) (v5 : Int32) (v6 : Int64) (v8 : Int32)  (st : St), fX11_level_L52 n k v4 v5 v6 v8 st = some res → At p l e (rmK 3) s m args below meth c D G ad (MQI D G ad below args s res) 11 st [(0, .ref (ad 130)), (4, .int v4), (5, .int v5), (6, .long v6), (8, .int v8)] 52 [] := by
  intro k
  induction k with
  | zero => intro v4 v5 v6 v8  st h; exact absurd h (by intro q; cases q)
  | succ k ih => intro v4 v5 v6 v8  st h; exact wX11_level_s52 C n (fX11_level_L52 n k)  v4 v5 v6 v8   st res ih h
def fX11_level_s47 (n : Nat)   (v4 : Int32) (v5 : Int32) (k0 : Int64) (st : St) : Option (Int32 × St) := fX11_level_L52 n n v4 v5 k0 1 st
set_option maxHeartbeats 4000000 in
set_option maxRecDepth 100000 in
theorem wX11_level_s47 (C : Cx p s m args meth c cX11_level 11 wsL_law RX11 (some .int) D G ad) (n : Nat)   (v4 : Int32) (v5 : Int32) (k0 : Int64)   (st : St) (res : (Int32 × St))  (hf : fX11_level_s47 n   v4 v5 k0 st = some res) : At p l e (rmK 3) s m args below meth c D G ad (MQI D G ad below args s res) 11 st [(0, .ref (ad 130)), (4, .int v4), (5, .int v5)] 47 [.long k0] := by
  obtain ⟨hx, hb, hml, hown, hts, hr, hlk, hK, had, hSt⟩ := id C
  intro H locs ls hl hP hS
  unfold fX11_level_s47 at hf
  refine lv_lstore (lv' := [(6, .long k0), (0, .ref (ad 130)), (4, .int v4), (5, .int v5)]) hx hb dX11_level_47 hl (by decide) rfl (fun ls hl => ?_)
  refine lv_iconst (v := 1) hx hb dX11_level_49 (by decide) ?_
  refine lv_istore (lv' := [(8, .int 1), (6, .long k0), (0, .ref (ad 130)), (4, .int v4), (5, .int v5)]) hx hb dX11_level_50 hl (by decide) rfl (fun ls hl => ?_)
  exact wX11_level_L52 C n res n v4 v5 k0 1 st hf H locs ls (lv_sub hl [2, 3, 4, 1, 0] rfl) hP hS
def fX11_level_s37 (n : Nat)   (v4 : Int32) (st : St) : Option (Int32 × St) := (fX11_far n 0 v4 st).bind (fun q => fX11_level_s47 n v4 0 q.1 q.2)
set_option maxHeartbeats 4000000 in
set_option maxRecDepth 100000 in
theorem wX11_level_s37 (C : Cx p s m args meth c cX11_level 11 wsL_law RX11 (some .int) D G ad) (n : Nat)   (v4 : Int32)   (st : St) (res : (Int32 × St))  (hf : fX11_level_s37 n   v4 st = some res) : At p l e (rmK 3) s m args below meth c D G ad (MQI D G ad below args s res) 11 st [(0, .ref (ad 130)), (4, .int v4)] 37 [] := by
  obtain ⟨hx, hb, hml, hown, hts, hr, hlk, hK, had, hSt⟩ := id C
  intro H locs ls hl hP hS
  unfold fX11_level_s37 at hf
  refine lv_iconst (v := 0) hx hb dX11_level_37 (by decide) ?_
  refine lv_istore (lv' := [(5, .int 0), (0, .ref (ad 130)), (4, .int v4)]) hx hb dX11_level_38 hl (by decide) rfl (fun ls hl => ?_)
  refine lv_aload_n hx hb dX11_level_40 rfl (lv_at hl 1 rfl) ?_
  refine lv_iconst (v := 0) hx hb dX11_level_41 (by decide) ?_
  refine lv_iload hx hb dX11_level_42 (lv_at hl 2 rfl) ?_
  obtain ⟨q, hq, hf⟩ := bd hf
  refine gcV_j (k := 2) (o := 130) (As := [.int 0, .int v4]) (rest := []) hx hb hml hown hts hK hSt hP hS hl.1 (goodV wm_43_21 wm_43_22 wm_43_23 wm_1_5 wm_44_0) okX11_far ct_130 rfl rfl (Nat.le_of_ble_eq_true rfl) (Nat.le_of_ble_eq_true rfl) rfl rfl (Nat.le_of_ble_eq_true rfl) dX11_level_44 (kX11_far l D G ad had n  0 v4 st q hq) (fun H locs hP hS => ?_)
  exact wX11_level_s47 C n v4 0 q.1 q.2 res hf H locs ls (lv_sub hl [1, 2, 0] rfl) hP hS
def fX11_level_s34 (n : Nat)   (v4 : Int32) (st : St) : Option (Int32 × St) := some (v4, st)
set_option maxHeartbeats 4000000 in
set_option maxRecDepth 100000 in
theorem wX11_level_s34 (C : Cx p s m args meth c cX11_level 11 wsL_law RX11 (some .int) D G ad) (n : Nat)   (v4 : Int32)   (st : St) (res : (Int32 × St))  (hf : fX11_level_s34 n   v4 st = some res) : At p l e (rmK 3) s m args below meth c D G ad (MQI D G ad below args s res) 11 st [(4, .int v4)] 34 [] := by
  obtain ⟨hx, hb, hml, hown, hts, hr, hlk, hK, had, hSt⟩ := id C
  intro H locs ls hl hP hS
  unfold fX11_level_s34 at hf
  refine lv_iload hx hb dX11_level_34 (lv_at hl 0 rfl) ?_
  exact g_iret hx hb hr hlk hP hS dX11_level_36 hf
def fX11_level_s28 (n : Nat)   (v1 : Int32) (k0 : Int32) (st : St) : Option (Int32 × St) := if v1 = 0 then fX11_level_s34 n k0 st else fX11_level_s37 n k0 st
set_option maxHeartbeats 4000000 in
set_option maxRecDepth 100000 in
theorem wX11_level_s28 (C : Cx p s m args meth c cX11_level 11 wsL_law RX11 (some .int) D G ad) (n : Nat)   (v1 : Int32) (k0 : Int32)   (st : St) (res : (Int32 × St))  (hf : fX11_level_s28 n   v1 k0 st = some res) : At p l e (rmK 3) s m args below meth c D G ad (MQI D G ad below args s res) 11 st [(0, .ref (ad 130)), (1, .int v1)] 28 [.int k0] := by
  obtain ⟨hx, hb, hml, hown, hts, hr, hlk, hK, had, hSt⟩ := id C
  intro H locs ls hl hP hS
  unfold fX11_level_s28 at hf
  refine lv_istore (lv' := [(4, .int k0), (0, .ref (ad 130)), (1, .int v1)]) hx hb dX11_level_28 hl (by decide) rfl (fun ls hl => ?_)
  refine lv_iload_n hx hb dX11_level_30 rfl (lv_at hl 2 rfl) ?_
  refine lv_if_ne (tgt := 37) hx hb dX11_level_31 (by decide) (fun q => ?_) (fun q => ?_)
  · exact wX11_level_s37 C n k0 st res (ie hf q) H locs ls (lv_sub hl [1, 0] rfl) hP hS
  · exact wX11_level_s34 C n k0 st res (it hf q) H locs ls (lv_sub hl [0] rfl) hP hS
def fX11_level_s24 (n : Nat)   (v1 : Int32) (st : St) : Option (Int32 × St) := (fX11_nearLevel n st).bind (fun q => fX11_level_s28 n v1 q.1 q.2)
set_option maxHeartbeats 4000000 in
set_option maxRecDepth 100000 in
theorem wX11_level_s24 (C : Cx p s m args meth c cX11_level 11 wsL_law RX11 (some .int) D G ad) (n : Nat)   (v1 : Int32)   (st : St) (res : (Int32 × St))  (hf : fX11_level_s24 n   v1 st = some res) : At p l e (rmK 3) s m args below meth c D G ad (MQI D G ad below args s res) 11 st [(0, .ref (ad 130)), (1, .int v1)] 24 [] := by
  obtain ⟨hx, hb, hml, hown, hts, hr, hlk, hK, had, hSt⟩ := id C
  intro H locs ls hl hP hS
  unfold fX11_level_s24 at hf
  refine lv_aload_n hx hb dX11_level_24 rfl (lv_at hl 0 rfl) ?_
  obtain ⟨q, hq, hf⟩ := bd hf
  refine gcV_i (k := 2) (o := 130) (As := []) (rest := []) hx hb hml hown hts hK hSt hP hS hl.1 (goodV wm_43_8 wm_43_9 wm_43_10 wm_1_5 wm_43_11) okX11_nearLevel ct_130 rfl rfl (Nat.le_of_ble_eq_true rfl) (Nat.le_of_ble_eq_true rfl) rfl rfl (Nat.le_of_ble_eq_true rfl) dX11_level_25 (kX11_nearLevel l D G ad had n   st q hq) (fun H locs hP hS => ?_)
  exact wX11_level_s28 C n v1 q.1 q.2 res hf H locs ls (lv_sub hl [0, 1] rfl) hP hS
def fX11_level_s22 (n : Nat)    (st : St) : Option (Int32 × St) := some ((-1), st)
set_option maxHeartbeats 4000000 in
set_option maxRecDepth 100000 in
theorem wX11_level_s22 (C : Cx p s m args meth c cX11_level 11 wsL_law RX11 (some .int) D G ad) (n : Nat)      (st : St) (res : (Int32 × St))  (hf : fX11_level_s22 n    st = some res) : At p l e (rmK 3) s m args below meth c D G ad (MQI D G ad below args s res) 11 st [] 22 [] := by
  obtain ⟨hx, hb, hml, hown, hts, hr, hlk, hK, had, hSt⟩ := id C
  intro H locs ls hl hP hS
  unfold fX11_level_s22 at hf
  refine lv_iconst (v := (-1)) hx hb dX11_level_22 (by decide) ?_
  exact g_iret hx hb hr hlk hP hS dX11_level_23 hf
def fX11_level_s19 (n : Nat)   (v1 : Int32) (k0 : Int32) (st : St) : Option (Int32 × St) := if k0 = 0 then fX11_level_s22 n st else fX11_level_s24 n v1 st
set_option maxHeartbeats 4000000 in
set_option maxRecDepth 100000 in
theorem wX11_level_s19 (C : Cx p s m args meth c cX11_level 11 wsL_law RX11 (some .int) D G ad) (n : Nat)   (v1 : Int32) (k0 : Int32)   (st : St) (res : (Int32 × St))  (hf : fX11_level_s19 n   v1 k0 st = some res) : At p l e (rmK 3) s m args below meth c D G ad (MQI D G ad below args s res) 11 st [(0, .ref (ad 130)), (1, .int v1)] 19 [.int k0] := by
  obtain ⟨hx, hb, hml, hown, hts, hr, hlk, hK, had, hSt⟩ := id C
  intro H locs ls hl hP hS
  unfold fX11_level_s19 at hf
  refine lv_if_ne (tgt := 24) hx hb dX11_level_19 (by decide) (fun q => ?_) (fun q => ?_)
  · exact wX11_level_s24 C n v1 st res (ie hf q) H locs ls (lv_sub hl [0, 1] rfl) hP hS
  · exact wX11_level_s22 C n st res (it hf q) H locs ls (lv_sub hl [] rfl) hP hS
def fX11_level_s12 (n : Nat)   (v1 : Int32) (st : St) : Option (Int32 × St) := (fX11_in n v1.toInt64 0 1 st).bind (fun q => fX11_level_s19 n v1 q.1 q.2)
set_option maxHeartbeats 4000000 in
set_option maxRecDepth 100000 in
theorem wX11_level_s12 (C : Cx p s m args meth c cX11_level 11 wsL_law RX11 (some .int) D G ad) (n : Nat)   (v1 : Int32)   (st : St) (res : (Int32 × St))  (hf : fX11_level_s12 n   v1 st = some res) : At p l e (rmK 3) s m args below meth c D G ad (MQI D G ad below args s res) 11 st [(0, .ref (ad 130)), (1, .int v1)] 12 [] := by
  obtain ⟨hx, hb, hml, hown, hts, hr, hlk, hK, had, hSt⟩ := id C
  intro H locs ls hl hP hS
  unfold fX11_level_s12 at hf
  refine lv_iload_n hx hb dX11_level_12 rfl (lv_at hl 1 rfl) ?_
  refine lv_i2l hx hb dX11_level_13 rfl ?_
  refine lv_lconst (v := 0) hx hb dX11_level_14 (by decide) ?_
  refine lv_lconst (v := 1) hx hb dX11_level_15 (by decide) ?_
  obtain ⟨q, hq, hf⟩ := bd hf
  refine gcS_i (k := 0) (As := [.long v1.toInt64, .long 0, .long 1]) (rest := []) hx hb hml hown hts hK hSt hP hS hl.1 (goodS wm_10_21 wm_10_22 wm_1_5 wm_10_23) okX11_in (Nat.le_of_ble_eq_true rfl) (Nat.le_of_ble_eq_true rfl) rfl rfl (Nat.le_of_ble_eq_true rfl) dX11_level_16 (kX11_in l D G ad had n  v1.toInt64 0 1 st q hq) (fun H locs hP hS => ?_)
  exact wX11_level_s19 C n v1 q.1 q.2 res hf H locs ls (lv_sub hl [0, 1] rfl) hP hS
def fX11_level_s9 (n : Nat)    (st : St) : Option (Int32 × St) := some ((-2), st)
set_option maxHeartbeats 4000000 in
set_option maxRecDepth 100000 in
theorem wX11_level_s9 (C : Cx p s m args meth c cX11_level 11 wsL_law RX11 (some .int) D G ad) (n : Nat)      (st : St) (res : (Int32 × St))  (hf : fX11_level_s9 n    st = some res) : At p l e (rmK 3) s m args below meth c D G ad (MQI D G ad below args s res) 11 st [] 9 [] := by
  obtain ⟨hx, hb, hml, hown, hts, hr, hlk, hK, had, hSt⟩ := id C
  intro H locs ls hl hP hS
  unfold fX11_level_s9 at hf
  refine lv_bipush (v := (-2)) hx hb dX11_level_9 (by decide) ?_
  exact g_iret hx hb hr hlk hP hS dX11_level_11 hf
def fX11_level_s6 (n : Nat)   (v1 : Int32) (k0 : Int32) (st : St) : Option (Int32 × St) := if k0 = 0 then fX11_level_s9 n st else fX11_level_s12 n v1 st
set_option maxHeartbeats 4000000 in
set_option maxRecDepth 100000 in
theorem wX11_level_s6 (C : Cx p s m args meth c cX11_level 11 wsL_law RX11 (some .int) D G ad) (n : Nat)   (v1 : Int32) (k0 : Int32)   (st : St) (res : (Int32 × St))  (hf : fX11_level_s6 n   v1 k0 st = some res) : At p l e (rmK 3) s m args below meth c D G ad (MQI D G ad below args s res) 11 st [(0, .ref (ad 130)), (1, .int v1)] 6 [.int k0] := by
  obtain ⟨hx, hb, hml, hown, hts, hr, hlk, hK, had, hSt⟩ := id C
  intro H locs ls hl hP hS
  unfold fX11_level_s6 at hf
  refine lv_if_ne (tgt := 12) hx hb dX11_level_6 (by decide) (fun q => ?_) (fun q => ?_)
  · exact wX11_level_s12 C n v1 st res (ie hf q) H locs ls (lv_sub hl [0, 1] rfl) hP hS
  · exact wX11_level_s9 C n st res (it hf q) H locs ls (lv_sub hl [] rfl) hP hS
def fX11_level_s0 (n : Nat)   (v1 : Int32) (v2 : Int32) (v3 : Int32) (st : St) : Option (Int32 × St) := (fX11_hasLevels n v2 v3 st).bind (fun q => fX11_level_s6 n v1 q.1 q.2)
set_option maxHeartbeats 4000000 in
set_option maxRecDepth 100000 in
theorem wX11_level_s0 (C : Cx p s m args meth c cX11_level 11 wsL_law RX11 (some .int) D G ad) (n : Nat)   (v1 : Int32) (v2 : Int32) (v3 : Int32)   (st : St) (res : (Int32 × St))  (hf : fX11_level_s0 n   v1 v2 v3 st = some res) : At p l e (rmK 3) s m args below meth c D G ad (MQI D G ad below args s res) 11 st [(0, .ref (ad 130)), (1, .int v1), (2, .int v2), (3, .int v3)] 0 [] := by
  obtain ⟨hx, hb, hml, hown, hts, hr, hlk, hK, had, hSt⟩ := id C
  intro H locs ls hl hP hS
  unfold fX11_level_s0 at hf
  refine lv_aload_n hx hb dX11_level_0 rfl (lv_at hl 0 rfl) ?_
  refine lv_iload_n hx hb dX11_level_1 rfl (lv_at hl 2 rfl) ?_
  refine lv_iload_n hx hb dX11_level_2 rfl (lv_at hl 3 rfl) ?_
  obtain ⟨q, hq, hf⟩ := bd hf
  refine gcV_i (k := 1) (o := 130) (As := [.int v2, .int v3]) (rest := []) hx hb hml hown hts hK hSt hP hS hl.1 (goodV wm_42_22 wm_42_23 wm_43_0 wm_1_5 wm_43_1) okX11_hasLevels ct_130 rfl rfl (Nat.le_of_ble_eq_true rfl) (Nat.le_of_ble_eq_true rfl) rfl rfl (Nat.le_of_ble_eq_true rfl) dX11_level_3 (kX11_hasLevels l D G ad had n  v2 v3 st q hq) (fun H locs hP hS => ?_)
  exact wX11_level_s6 C n v1 q.1 q.2 res hf H locs ls (lv_sub hl [0, 1] rfl) hP hS
def fX11_level (n : Nat)  (a1 : Int32) (a2 : Int32) (a3 : Int32) (st : St) : Option (Int32 × St) := fX11_level_s0 n a1 a2 a3 st
theorem okX11_level : okY yX11_level RX11 3 := by unfold okY; decide +kernel
end
set_option maxRecDepth 100000 in
theorem kX11_level (l : Launch) (D : va_G) (G : G3) (ad : Nat → Nat) (had : Adr ad) (n : Nat)   (a1 : Int32) (a2 : Int32) (a3 : Int32) (st : St) (res : (Int32 × St)) (hf : fX11_level n  a1 a2 a3 st = some res) {sz : Nat} : CtI l yX11_level (wsU yX11_level cX11_level 11 (some .int)) (rmK 3) D G ad sz [.ref (ad 130), .int a1, .int a2, .int a3] st res := by
  refine Met.ofW (cc := cX11_level) (maxL := 11) (ret := (some .int)) (by decide) rfl ?_
  intro p e s m args below meth c s₁ B hml hv
  obtain ⟨rfl, hsz, hP, hK, hSt⟩ := hv
  have hts := atoms_spec (ws := wsU yX11_level cX11_level 11 (some .int)) B.pre
  have C : Cx p s m _ meth c cX11_level 11 wsL_law RX11 (some .int) D G ad := ⟨B.exec, B.bytes, hml, findClass_of_methodNamed B.named, fun w h => hts w (List.mem_cons_of_mem _ h), B.returns, B.notSynchronized, hK, had, hSt⟩
  subst hsz
  have hl := lv_entry ([.ref (ad 130), .int a1, .int a2, .int a3]) (n := 11) (Nat.le_of_ble_eq_true rfl)
  rw [lg_entry_eq]
  generalize (lg_sl ([.ref (ad 130), .int a1, .int a2, .int a3]) ++ List.replicate (11 - (lg_sl ([.ref (ad 130), .int a1, .int a2, .int a3])).length) Slot.unset).toArray = ls at hl ⊢
  exact wX11_level_s0 C n  a1 a2 a3   st res hf s.heap [] ls (lv_sub hl [0, 1, 2, 3] rfl) hP va_S.rf
section
variable {p : Program} {l : Launch} {e : Env} {s : State} {m : MethodId} {args : Array Value} {below : List Frame} {meth : Method} {c : Code} {D : va_G} {G : G3} {ad : Nat → Nat}
def fX11_levelCost_s34 (n : Nat)    (st : St) : Option (Int64 × St) := some ((-9223372036854775808), st)
set_option maxHeartbeats 4000000 in
set_option maxRecDepth 100000 in
theorem wX11_levelCost_s34 (C : Cx p s m args meth c cX11_levelCost 5 wsL_law RX11 (some .long) D G ad) (n : Nat)      (st : St) (res : (Int64 × St))  (hf : fX11_levelCost_s34 n    st = some res) : At p l e (rmK 3) s m args below meth c D G ad (MQJ D G ad below args s res) 5 st [] 34 [] := by
  obtain ⟨hx, hb, hml, hown, hts, hr, hlk, hK, had, hSt⟩ := id C
  intro H locs ls hl hP hS
  unfold fX11_levelCost_s34 at hf
  refine lv_ldc2 hx hb hown (hts _ wm_14_15) dX11_levelCost_34 ?_
  exact g_lret hx hb hr hlk hP hS dX11_levelCost_37 hf
def fX11_levelCost_s62 (n : Nat)   (k0 : Int64) (st : St) : Option (Int64 × St) := some (k0, st)
set_option maxHeartbeats 4000000 in
set_option maxRecDepth 100000 in
theorem wX11_levelCost_s62 (C : Cx p s m args meth c cX11_levelCost 5 wsL_law RX11 (some .long) D G ad) (n : Nat)   (k0 : Int64)   (st : St) (res : (Int64 × St))  (hf : fX11_levelCost_s62 n   k0 st = some res) : At p l e (rmK 3) s m args below meth c D G ad (MQJ D G ad below args s res) 5 st [] 62 [.long k0] := by
  obtain ⟨hx, hb, hml, hown, hts, hr, hlk, hK, had, hSt⟩ := id C
  intro H locs ls hl hP hS
  unfold fX11_levelCost_s62 at hf
  exact g_lret hx hb hr hlk hP hS dX11_levelCost_62 hf
def fX11_levelCost_s59 (n : Nat)   (k1 : Int32) (k2 : Int32) (st : St) : Option (Int64 × St) := (fX11_far n k1 k2 st).bind (fun q => fX11_levelCost_s62 n q.1 q.2)
set_option maxHeartbeats 4000000 in
set_option maxRecDepth 100000 in
theorem wX11_levelCost_s59 (C : Cx p s m args meth c cX11_levelCost 5 wsL_law RX11 (some .long) D G ad) (n : Nat)   (k1 : Int32) (k2 : Int32)   (st : St) (res : (Int64 × St))  (hf : fX11_levelCost_s59 n   k1 k2 st = some res) : At p l e (rmK 3) s m args below meth c D G ad (MQJ D G ad below args s res) 5 st [] 59 [.int k2, .int k1, .ref (ad 130)] := by
  obtain ⟨hx, hb, hml, hown, hts, hr, hlk, hK, had, hSt⟩ := id C
  intro H locs ls hl hP hS
  unfold fX11_levelCost_s59 at hf
  obtain ⟨q, hq, hf⟩ := bd hf
  refine gcV_j (k := 2) (o := 130) (As := [.int k1, .int k2]) (rest := []) hx hb hml hown hts hK hSt hP hS hl.1 (goodV wm_43_21 wm_43_22 wm_43_23 wm_1_5 wm_44_0) okX11_far ct_130 rfl rfl (Nat.le_of_ble_eq_true rfl) (Nat.le_of_ble_eq_true rfl) rfl rfl (Nat.le_of_ble_eq_true rfl) dX11_levelCost_59 (kX11_far l D G ad had n  k1 k2 st q hq) (fun H locs hP hS => ?_)
  exact wX11_levelCost_s62 C n q.1 q.2 res hf H locs ls (lv_sub hl [] rfl) hP hS
def fX11_levelCost_s52 (n : Nat)   (v4 : Int32) (st : St) : Option (Int64 × St) := (fX11_nearLevel n st).bind (fun q => fX11_levelCost_s59 n v4 q.1 q.2)
set_option maxHeartbeats 4000000 in
set_option maxRecDepth 100000 in
theorem wX11_levelCost_s52 (C : Cx p s m args meth c cX11_levelCost 5 wsL_law RX11 (some .long) D G ad) (n : Nat)   (v4 : Int32)   (st : St) (res : (Int64 × St))  (hf : fX11_levelCost_s52 n   v4 st = some res) : At p l e (rmK 3) s m args below meth c D G ad (MQJ D G ad below args s res) 5 st [(0, .ref (ad 130)), (4, .int v4)] 52 [] := by
  obtain ⟨hx, hb, hml, hown, hts, hr, hlk, hK, had, hSt⟩ := id C
  intro H locs ls hl hP hS
  unfold fX11_levelCost_s52 at hf
  refine lv_aload_n hx hb dX11_levelCost_52 rfl (lv_at hl 0 rfl) ?_
  refine lv_iload hx hb dX11_levelCost_53 (lv_at hl 1 rfl) ?_
  refine lv_aload_n hx hb dX11_levelCost_55 rfl (lv_at hl 0 rfl) ?_
  obtain ⟨q, hq, hf⟩ := bd hf
  refine gcV_i (k := 2) (o := 130) (As := []) (rest := [.int v4, .ref (ad 130)]) hx hb hml hown hts hK hSt hP hS hl.1 (goodV wm_43_8 wm_43_9 wm_43_10 wm_1_5 wm_43_11) okX11_nearLevel ct_130 rfl rfl (Nat.le_of_ble_eq_true rfl) (Nat.le_of_ble_eq_true rfl) rfl rfl (Nat.le_of_ble_eq_true rfl) dX11_levelCost_56 (kX11_nearLevel l D G ad had n   st q hq) (fun H locs hP hS => ?_)
  exact wX11_levelCost_s59 C n v4 q.1 q.2 res hf H locs ls (lv_sub hl [] rfl) hP hS
def fX11_levelCost_s49 (n : Nat)   (k0 : Int64) (st : St) : Option (Int64 × St) := fX11_levelCost_s62 n k0 st
set_option maxHeartbeats 4000000 in
set_option maxRecDepth 100000 in
theorem wX11_levelCost_s49 (C : Cx p s m args meth c cX11_levelCost 5 wsL_law RX11 (some .long) D G ad) (n : Nat)   (k0 : Int64)   (st : St) (res : (Int64 × St))  (hf : fX11_levelCost_s49 n   k0 st = some res) : At p l e (rmK 3) s m args below meth c D G ad (MQJ D G ad below args s res) 5 st [] 49 [.long k0] := by
  obtain ⟨hx, hb, hml, hown, hts, hr, hlk, hK, had, hSt⟩ := id C
  intro H locs ls hl hP hS
  unfold fX11_levelCost_s49 at hf
  refine lv_goto (tgt := 62) hx hb dX11_levelCost_49 (by decide) ?_
  exact wX11_levelCost_s62 C n k0 st res hf H locs ls (lv_sub hl [] rfl) hP hS
def fX11_levelCost_s42 (n : Nat)   (v4 : Int32) (st : St) : Option (Int64 × St) := (fX11_near n v4.toInt64 st).bind (fun q => fX11_levelCost_s49 n q.1 q.2)
set_option maxHeartbeats 4000000 in
set_option maxRecDepth 100000 in
theorem wX11_levelCost_s42 (C : Cx p s m args meth c cX11_levelCost 5 wsL_law RX11 (some .long) D G ad) (n : Nat)   (v4 : Int32)   (st : St) (res : (Int64 × St))  (hf : fX11_levelCost_s42 n   v4 st = some res) : At p l e (rmK 3) s m args below meth c D G ad (MQJ D G ad below args s res) 5 st [(0, .ref (ad 130)), (4, .int v4)] 42 [] := by
  obtain ⟨hx, hb, hml, hown, hts, hr, hlk, hK, had, hSt⟩ := id C
  intro H locs ls hl hP hS
  unfold fX11_levelCost_s42 at hf
  refine lv_aload_n hx hb dX11_levelCost_42 rfl (lv_at hl 0 rfl) ?_
  refine lv_iload hx hb dX11_levelCost_43 (lv_at hl 1 rfl) ?_
  refine lv_i2l hx hb dX11_levelCost_45 rfl ?_
  obtain ⟨q, hq, hf⟩ := bd hf
  refine gcV_j (k := 1) (o := 130) (As := [.long v4.toInt64]) (rest := []) hx hb hml hown hts hK hSt hP hS hl.1 (goodV wm_43_12 wm_43_13 wm_43_14 wm_1_5 wm_43_15) okX11_near ct_130 rfl rfl (Nat.le_of_ble_eq_true rfl) (Nat.le_of_ble_eq_true rfl) rfl rfl (Nat.le_of_ble_eq_true rfl) dX11_levelCost_46 (kX11_near l D G ad had n  v4.toInt64 st q hq) (fun H locs hP hS => ?_)
  exact wX11_levelCost_s49 C n q.1 q.2 res hf H locs ls (lv_sub hl [] rfl) hP hS
def fX11_levelCost_s38 (n : Nat)   (v1 : Int32) (v4 : Int32) (st : St) : Option (Int64 × St) := if v1 = 0 then fX11_levelCost_s42 n v4 st else fX11_levelCost_s52 n v4 st
set_option maxHeartbeats 4000000 in
set_option maxRecDepth 100000 in
theorem wX11_levelCost_s38 (C : Cx p s m args meth c cX11_levelCost 5 wsL_law RX11 (some .long) D G ad) (n : Nat)   (v1 : Int32) (v4 : Int32)   (st : St) (res : (Int64 × St))  (hf : fX11_levelCost_s38 n   v1 v4 st = some res) : At p l e (rmK 3) s m args below meth c D G ad (MQJ D G ad below args s res) 5 st [(0, .ref (ad 130)), (1, .int v1), (4, .int v4)] 38 [] := by
  obtain ⟨hx, hb, hml, hown, hts, hr, hlk, hK, had, hSt⟩ := id C
  intro H locs ls hl hP hS
  unfold fX11_levelCost_s38 at hf
  refine lv_iload_n hx hb dX11_levelCost_38 rfl (lv_at hl 1 rfl) ?_
  refine lv_if_ne (tgt := 52) hx hb dX11_levelCost_39 (by decide) (fun q => ?_) (fun q => ?_)
  · exact wX11_levelCost_s52 C n v4 st res (ie hf q) H locs ls (lv_sub hl [0, 2] rfl) hP hS
  · exact wX11_levelCost_s42 C n v4 st res (it hf q) H locs ls (lv_sub hl [0, 2] rfl) hP hS
def fX11_levelCost_s31 (n : Nat)   (v1 : Int32) (v4 : Int32) (k0 : Int32) (st : St) : Option (Int64 × St) := if k0 = 0 then fX11_levelCost_s34 n st else fX11_levelCost_s38 n v1 v4 st
set_option maxHeartbeats 4000000 in
set_option maxRecDepth 100000 in
theorem wX11_levelCost_s31 (C : Cx p s m args meth c cX11_levelCost 5 wsL_law RX11 (some .long) D G ad) (n : Nat)   (v1 : Int32) (v4 : Int32) (k0 : Int32)   (st : St) (res : (Int64 × St))  (hf : fX11_levelCost_s31 n   v1 v4 k0 st = some res) : At p l e (rmK 3) s m args below meth c D G ad (MQJ D G ad below args s res) 5 st [(0, .ref (ad 130)), (1, .int v1), (4, .int v4)] 31 [.int k0] := by
  obtain ⟨hx, hb, hml, hown, hts, hr, hlk, hK, had, hSt⟩ := id C
  intro H locs ls hl hP hS
  unfold fX11_levelCost_s31 at hf
  refine lv_if_ne (tgt := 38) hx hb dX11_levelCost_31 (by decide) (fun q => ?_) (fun q => ?_)
  · exact wX11_levelCost_s38 C n v1 v4 st res (ie hf q) H locs ls (lv_sub hl [0, 1, 2] rfl) hP hS
  · exact wX11_levelCost_s34 C n st res (it hf q) H locs ls (lv_sub hl [] rfl) hP hS
def fX11_levelCost_s19 (n : Nat)   (v1 : Int32) (v4 : Int32) (st : St) : Option (Int64 × St) := (fX11_in n v4.toInt64 (-30) 30 st).bind (fun q => fX11_levelCost_s31 n v1 v4 q.1 q.2)
set_option maxHeartbeats 4000000 in
set_option maxRecDepth 100000 in
theorem wX11_levelCost_s19 (C : Cx p s m args meth c cX11_levelCost 5 wsL_law RX11 (some .long) D G ad) (n : Nat)   (v1 : Int32) (v4 : Int32)   (st : St) (res : (Int64 × St))  (hf : fX11_levelCost_s19 n   v1 v4 st = some res) : At p l e (rmK 3) s m args below meth c D G ad (MQJ D G ad below args s res) 5 st [(0, .ref (ad 130)), (1, .int v1), (4, .int v4)] 19 [] := by
  obtain ⟨hx, hb, hml, hown, hts, hr, hlk, hK, had, hSt⟩ := id C
  intro H locs ls hl hP hS
  unfold fX11_levelCost_s19 at hf
  refine lv_iload hx hb dX11_levelCost_19 (lv_at hl 2 rfl) ?_
  refine lv_i2l hx hb dX11_levelCost_21 rfl ?_
  refine lv_ldc2 hx hb hown (hts _ wm_43_16) dX11_levelCost_22 ?_
  refine lv_ldc2 hx hb hown (hts _ wm_36_13) dX11_levelCost_25 ?_
  obtain ⟨q, hq, hf⟩ := bd hf
  refine gcS_i (k := 0) (As := [.long v4.toInt64, .long (-30), .long 30]) (rest := []) hx hb hml hown hts hK hSt hP hS hl.1 (goodS wm_10_21 wm_10_22 wm_1_5 wm_10_23) okX11_in (Nat.le_of_ble_eq_true rfl) (Nat.le_of_ble_eq_true rfl) rfl rfl (Nat.le_of_ble_eq_true rfl) dX11_levelCost_28 (kX11_in l D G ad had n  v4.toInt64 (-30) 30 st q hq) (fun H locs hP hS => ?_)
  exact wX11_levelCost_s31 C n v1 v4 q.1 q.2 res hf H locs ls (lv_sub hl [0, 1, 2] rfl) hP hS
def fX11_levelCost_s16 (n : Nat)   (v1 : Int32) (v4 : Int32) (k0 : Int32) (st : St) : Option (Int64 × St) := if k0 = 0 then fX11_levelCost_s34 n st else fX11_levelCost_s19 n v1 v4 st
set_option maxHeartbeats 4000000 in
set_option maxRecDepth 100000 in
theorem wX11_levelCost_s16 (C : Cx p s m args meth c cX11_levelCost 5 wsL_law RX11 (some .long) D G ad) (n : Nat)   (v1 : Int32) (v4 : Int32) (k0 : Int32)   (st : St) (res : (Int64 × St))  (hf : fX11_levelCost_s16 n   v1 v4 k0 st = some res) : At p l e (rmK 3) s m args below meth c D G ad (MQJ D G ad below args s res) 5 st [(0, .ref (ad 130)), (1, .int v1), (4, .int v4)] 16 [.int k0] := by
  obtain ⟨hx, hb, hml, hown, hts, hr, hlk, hK, had, hSt⟩ := id C
  intro H locs ls hl hP hS
  unfold fX11_levelCost_s16 at hf
  refine lv_if_eq (tgt := 34) hx hb dX11_levelCost_16 (by decide) (fun q => ?_) (fun q => ?_)
  · exact wX11_levelCost_s34 C n st res (it hf q) H locs ls (lv_sub hl [] rfl) hP hS
  · exact wX11_levelCost_s19 C n v1 v4 st res (ie hf q) H locs ls (lv_sub hl [0, 1, 2] rfl) hP hS
def fX11_levelCost_s9 (n : Nat)   (v1 : Int32) (v4 : Int32) (st : St) : Option (Int64 × St) := (fX11_in n v1.toInt64 0 1 st).bind (fun q => fX11_levelCost_s16 n v1 v4 q.1 q.2)
set_option maxHeartbeats 4000000 in
set_option maxRecDepth 100000 in
theorem wX11_levelCost_s9 (C : Cx p s m args meth c cX11_levelCost 5 wsL_law RX11 (some .long) D G ad) (n : Nat)   (v1 : Int32) (v4 : Int32)   (st : St) (res : (Int64 × St))  (hf : fX11_levelCost_s9 n   v1 v4 st = some res) : At p l e (rmK 3) s m args below meth c D G ad (MQJ D G ad below args s res) 5 st [(0, .ref (ad 130)), (1, .int v1), (4, .int v4)] 9 [] := by
  obtain ⟨hx, hb, hml, hown, hts, hr, hlk, hK, had, hSt⟩ := id C
  intro H locs ls hl hP hS
  unfold fX11_levelCost_s9 at hf
  refine lv_iload_n hx hb dX11_levelCost_9 rfl (lv_at hl 1 rfl) ?_
  refine lv_i2l hx hb dX11_levelCost_10 rfl ?_
  refine lv_lconst (v := 0) hx hb dX11_levelCost_11 (by decide) ?_
  refine lv_lconst (v := 1) hx hb dX11_levelCost_12 (by decide) ?_
  obtain ⟨q, hq, hf⟩ := bd hf
  refine gcS_i (k := 0) (As := [.long v1.toInt64, .long 0, .long 1]) (rest := []) hx hb hml hown hts hK hSt hP hS hl.1 (goodS wm_10_21 wm_10_22 wm_1_5 wm_10_23) okX11_in (Nat.le_of_ble_eq_true rfl) (Nat.le_of_ble_eq_true rfl) rfl rfl (Nat.le_of_ble_eq_true rfl) dX11_levelCost_13 (kX11_in l D G ad had n  v1.toInt64 0 1 st q hq) (fun H locs hP hS => ?_)
  exact wX11_levelCost_s16 C n v1 v4 q.1 q.2 res hf H locs ls (lv_sub hl [0, 1, 2] rfl) hP hS
def fX11_levelCost_s6 (n : Nat)   (v1 : Int32) (v4 : Int32) (k0 : Int32) (st : St) : Option (Int64 × St) := if k0 = 0 then fX11_levelCost_s34 n st else fX11_levelCost_s9 n v1 v4 st
set_option maxHeartbeats 4000000 in
set_option maxRecDepth 100000 in
theorem wX11_levelCost_s6 (C : Cx p s m args meth c cX11_levelCost 5 wsL_law RX11 (some .long) D G ad) (n : Nat)   (v1 : Int32) (v4 : Int32) (k0 : Int32)   (st : St) (res : (Int64 × St))  (hf : fX11_levelCost_s6 n   v1 v4 k0 st = some res) : At p l e (rmK 3) s m args below meth c D G ad (MQJ D G ad below args s res) 5 st [(0, .ref (ad 130)), (1, .int v1), (4, .int v4)] 6 [.int k0] := by
  obtain ⟨hx, hb, hml, hown, hts, hr, hlk, hK, had, hSt⟩ := id C
  intro H locs ls hl hP hS
  unfold fX11_levelCost_s6 at hf
  refine lv_if_eq (tgt := 34) hx hb dX11_levelCost_6 (by decide) (fun q => ?_) (fun q => ?_)
  · exact wX11_levelCost_s34 C n st res (it hf q) H locs ls (lv_sub hl [] rfl) hP hS
  · exact wX11_levelCost_s9 C n v1 v4 st res (ie hf q) H locs ls (lv_sub hl [0, 1, 2] rfl) hP hS
def fX11_levelCost_s0 (n : Nat)   (v1 : Int32) (v2 : Int32) (v3 : Int32) (v4 : Int32) (st : St) : Option (Int64 × St) := (fX11_hasLevels n v2 v3 st).bind (fun q => fX11_levelCost_s6 n v1 v4 q.1 q.2)
set_option maxHeartbeats 4000000 in
set_option maxRecDepth 100000 in
theorem wX11_levelCost_s0 (C : Cx p s m args meth c cX11_levelCost 5 wsL_law RX11 (some .long) D G ad) (n : Nat)   (v1 : Int32) (v2 : Int32) (v3 : Int32) (v4 : Int32)   (st : St) (res : (Int64 × St))  (hf : fX11_levelCost_s0 n   v1 v2 v3 v4 st = some res) : At p l e (rmK 3) s m args below meth c D G ad (MQJ D G ad below args s res) 5 st [(0, .ref (ad 130)), (1, .int v1), (2, .int v2), (3, .int v3), (4, .int v4)] 0 [] := by
  obtain ⟨hx, hb, hml, hown, hts, hr, hlk, hK, had, hSt⟩ := id C
  intro H locs ls hl hP hS
  unfold fX11_levelCost_s0 at hf
  refine lv_aload_n hx hb dX11_levelCost_0 rfl (lv_at hl 0 rfl) ?_
  refine lv_iload_n hx hb dX11_levelCost_1 rfl (lv_at hl 2 rfl) ?_
  refine lv_iload_n hx hb dX11_levelCost_2 rfl (lv_at hl 3 rfl) ?_
  obtain ⟨q, hq, hf⟩ := bd hf
  refine gcV_i (k := 1) (o := 130) (As := [.int v2, .int v3]) (rest := []) hx hb hml hown hts hK hSt hP hS hl.1 (goodV wm_42_22 wm_42_23 wm_43_0 wm_1_5 wm_43_1) okX11_hasLevels ct_130 rfl rfl (Nat.le_of_ble_eq_true rfl) (Nat.le_of_ble_eq_true rfl) rfl rfl (Nat.le_of_ble_eq_true rfl) dX11_levelCost_3 (kX11_hasLevels l D G ad had n  v2 v3 st q hq) (fun H locs hP hS => ?_)
  exact wX11_levelCost_s6 C n v1 v4 q.1 q.2 res hf H locs ls (lv_sub hl [0, 1, 4] rfl) hP hS
def fX11_levelCost (n : Nat)  (a1 : Int32) (a2 : Int32) (a3 : Int32) (a4 : Int32) (st : St) : Option (Int64 × St) := fX11_levelCost_s0 n a1 a2 a3 a4 st
theorem okX11_levelCost : okY yX11_levelCost RX11 4 := by unfold okY; decide +kernel
end
set_option maxRecDepth 100000 in
theorem kX11_levelCost (l : Launch) (D : va_G) (G : G3) (ad : Nat → Nat) (had : Adr ad) (n : Nat)   (a1 : Int32) (a2 : Int32) (a3 : Int32) (a4 : Int32) (st : St) (res : (Int64 × St)) (hf : fX11_levelCost n  a1 a2 a3 a4 st = some res) {sz : Nat} : CtJ l yX11_levelCost (wsU yX11_levelCost cX11_levelCost 5 (some .long)) (rmK 3) D G ad sz [.ref (ad 130), .int a1, .int a2, .int a3, .int a4] st res := by
  refine Met.ofW (cc := cX11_levelCost) (maxL := 5) (ret := (some .long)) (by decide) rfl ?_
  intro p e s m args below meth c s₁ B hml hv
  obtain ⟨rfl, hsz, hP, hK, hSt⟩ := hv
  have hts := atoms_spec (ws := wsU yX11_levelCost cX11_levelCost 5 (some .long)) B.pre
  have C : Cx p s m _ meth c cX11_levelCost 5 wsL_law RX11 (some .long) D G ad := ⟨B.exec, B.bytes, hml, findClass_of_methodNamed B.named, fun w h => hts w (List.mem_cons_of_mem _ h), B.returns, B.notSynchronized, hK, had, hSt⟩
  subst hsz
  have hl := lv_entry ([.ref (ad 130), .int a1, .int a2, .int a3, .int a4]) (n := 5) (Nat.le_of_ble_eq_true rfl)
  rw [lg_entry_eq]
  generalize (lg_sl ([.ref (ad 130), .int a1, .int a2, .int a3, .int a4]) ++ List.replicate (5 - (lg_sl ([.ref (ad 130), .int a1, .int a2, .int a3, .int a4])).length) Slot.unset).toArray = ls at hl ⊢
  exact wX11_levelCost_s0 C n  a1 a2 a3 a4   st res hf s.heap [] ls (lv_sub hl [0, 1, 2, 3, 4] rfl) hP va_S.rf
section
variable {p : Program} {l : Launch} {e : Env} {s : State} {m : MethodId} {args : Array Value} {below : List Frame} {meth : Method} {c : Code} {D : va_G} {G : G3} {ad : Nat → Nat}
def fX11_keeps_s246 (n : Nat)    (st : St) : Option (Unit × St) := some ((), st)
set_option maxHeartbeats 4000000 in
set_option maxRecDepth 100000 in
theorem wX11_keeps_s246 (C : Cx p s m args meth c cX11_keeps 2 wsL_law RX11 none D G ad) (n : Nat)      (st : St) (res : (Unit × St))  (hf : fX11_keeps_s246 n    st = some res) : At p l e (rmK 0) s m args below meth c D G ad (MQV D G ad below args s res) 2 st [] 246 [] := by
  obtain ⟨hx, hb, hml, hown, hts, hr, hlk, hK, had, hSt⟩ := id C
  intro H locs ls hl hP hS
  unfold fX11_keeps_s246 at hf
  exact g_vret hx hb hr hlk hP hS dX11_keeps_246 hf
def fX11_keeps_s240 (n : Nat) (K209 : Int32 → St → Option (Unit × St))  (v1 : Int32) (st : St) : Option (Unit × St) := K209 (v1 + 1) st
set_option maxHeartbeats 4000000 in
set_option maxRecDepth 100000 in
theorem wX11_keeps_s240 (C : Cx p s m args meth c cX11_keeps 2 wsL_law RX11 none D G ad) (n : Nat) (K209 : Int32 → St → Option (Unit × St))  (v1 : Int32)   (st : St) (res : (Unit × St)) (hK209 : ∀ (v1 : Int32) (st : St), K209 v1 st = some res → At p l e (rmK 0) s m args below meth c D G ad (MQV D G ad below args s res) 2 st [(0, .ref (ad 130)), (1, .int v1)] 209 []) (hf : fX11_keeps_s240 n K209  v1 st = some res) : At p l e (rmK 0) s m args below meth c D G ad (MQV D G ad below args s res) 2 st [(0, .ref (ad 130)), (1, .int v1)] 240 [] := by
  obtain ⟨hx, hb, hml, hown, hts, hr, hlk, hK, had, hSt⟩ := id C
  intro H locs ls hl hP hS
  unfold fX11_keeps_s240 at hf
  refine lv_iinc (v := v1 + 1) (lv' := [(1, .int (v1 + 1)), (0, .ref (ad 130))]) hx hb dX11_keeps_240 hl (k := 1) rfl rfl (by decide) rfl (fun ls hl => ?_)
  refine lv_goto (tgt := 209) hx hb dX11_keeps_243 (by decide) ?_
  exact hK209 (v1 + 1)  st hf H locs ls (lv_sub hl [1, 0] rfl) hP hS
def fX11_keeps_s228 (n : Nat) (K209 : Int32 → St → Option (Unit × St))  (v1 : Int32) (st : St) : Option (Unit × St) := if inb v1 320 = true then (if inb v1 320 = true then (fX11_keeps_s240 n K209 v1 (setJ st 175 v1.toNatClampNeg (st.2 150 v1.toNatClampNeg))) else none) else none
set_option maxHeartbeats 4000000 in
set_option maxRecDepth 100000 in
theorem wX11_keeps_s228 (C : Cx p s m args meth c cX11_keeps 2 wsL_law RX11 none D G ad) (n : Nat) (K209 : Int32 → St → Option (Unit × St))  (v1 : Int32)   (st : St) (res : (Unit × St)) (hK209 : ∀ (v1 : Int32) (st : St), K209 v1 st = some res → At p l e (rmK 0) s m args below meth c D G ad (MQV D G ad below args s res) 2 st [(0, .ref (ad 130)), (1, .int v1)] 209 []) (hf : fX11_keeps_s228 n K209  v1 st = some res) : At p l e (rmK 0) s m args below meth c D G ad (MQV D G ad below args s res) 2 st [(0, .ref (ad 130)), (1, .int v1)] 228 [] := by
  obtain ⟨hx, hb, hml, hown, hts, hr, hlk, hK, had, hSt⟩ := id C
  intro H locs ls hl hP hS
  unfold fX11_keeps_s228 at hf
  refine lv_aload_n hx hb dX11_keeps_228 rfl (lv_at hl 0 rfl) ?_
  refine g_getR hx hb hts inlX11 hown hK hP 130 ct_130 rfl 73 (by decide) (hts _ wm_9_3) rfl dX11_keeps_229 ?_
  refine lv_iload_n hx hb dX11_keeps_232 rfl (lv_at hl 1 rfl) ?_
  refine lv_aload_n hx hb dX11_keeps_233 rfl (lv_at hl 0 rfl) ?_
  refine g_getR hx hb hts inlX11 hown hK hP 130 ct_130 rfl 25 (by decide) (hts _ wm_7_21) rfl dX11_keeps_234 ?_
  refine lv_iload_n hx hb dX11_keeps_237 rfl (lv_at hl 1 rfl) ?_
  obtain ⟨g1, hf⟩ := gd hf
  refine g_lald hx hb hK hP 150 ct_150 g1 dX11_keeps_238 ?_
  obtain ⟨g2, hf⟩ := gd hf
  refine g_last hx hb hK had hP hS 175 ct_175 g2 dX11_keeps_239 (fun H locs hP hS => ?_)
  exact wX11_keeps_s240 C n K209 v1 (setJ st 175 v1.toNatClampNeg (st.2 150 v1.toNatClampNeg)) res hK209 hf H locs ls (lv_sub hl [0, 1] rfl) hP hS
def fX11_keeps_s216 (n : Nat) (K209 : Int32 → St → Option (Unit × St))  (v1 : Int32) (st : St) : Option (Unit × St) := if inb v1 320 = true then (if inb v1 320 = true then (fX11_keeps_s228 n K209 v1 (setJ st 174 v1.toNatClampNeg (st.2 149 v1.toNatClampNeg))) else none) else none
set_option maxHeartbeats 4000000 in
set_option maxRecDepth 100000 in
theorem wX11_keeps_s216 (C : Cx p s m args meth c cX11_keeps 2 wsL_law RX11 none D G ad) (n : Nat) (K209 : Int32 → St → Option (Unit × St))  (v1 : Int32)   (st : St) (res : (Unit × St)) (hK209 : ∀ (v1 : Int32) (st : St), K209 v1 st = some res → At p l e (rmK 0) s m args below meth c D G ad (MQV D G ad below args s res) 2 st [(0, .ref (ad 130)), (1, .int v1)] 209 []) (hf : fX11_keeps_s216 n K209  v1 st = some res) : At p l e (rmK 0) s m args below meth c D G ad (MQV D G ad below args s res) 2 st [(0, .ref (ad 130)), (1, .int v1)] 216 [] := by
  obtain ⟨hx, hb, hml, hown, hts, hr, hlk, hK, had, hSt⟩ := id C
  intro H locs ls hl hP hS
  unfold fX11_keeps_s216 at hf
  refine lv_aload_n hx hb dX11_keeps_216 rfl (lv_at hl 0 rfl) ?_
  refine g_getR hx hb hts inlX11 hown hK hP 130 ct_130 rfl 72 (by decide) (hts _ wm_9_2) rfl dX11_keeps_217 ?_
  refine lv_iload_n hx hb dX11_keeps_220 rfl (lv_at hl 1 rfl) ?_
  refine lv_aload_n hx hb dX11_keeps_221 rfl (lv_at hl 0 rfl) ?_
  refine g_getR hx hb hts inlX11 hown hK hP 130 ct_130 rfl 24 (by decide) (hts _ wm_7_20) rfl dX11_keeps_222 ?_
  refine lv_iload_n hx hb dX11_keeps_225 rfl (lv_at hl 1 rfl) ?_
  obtain ⟨g1, hf⟩ := gd hf
  refine g_lald hx hb hK hP 149 ct_149 g1 dX11_keeps_226 ?_
  obtain ⟨g2, hf⟩ := gd hf
  refine g_last hx hb hK had hP hS 174 ct_174 g2 dX11_keeps_227 (fun H locs hP hS => ?_)
  exact wX11_keeps_s228 C n K209 v1 (setJ st 174 v1.toNatClampNeg (st.2 149 v1.toNatClampNeg)) res hK209 hf H locs ls (lv_sub hl [0, 1] rfl) hP hS
def fX11_keeps_s209 (n : Nat) (K209 : Int32 → St → Option (Unit × St))  (v1 : Int32) (st : St) : Option (Unit × St) := if 320 ≤ v1 then fX11_keeps_s246 n st else fX11_keeps_s216 n K209 v1 st
set_option maxHeartbeats 4000000 in
set_option maxRecDepth 100000 in
theorem wX11_keeps_s209 (C : Cx p s m args meth c cX11_keeps 2 wsL_law RX11 none D G ad) (n : Nat) (K209 : Int32 → St → Option (Unit × St))  (v1 : Int32)   (st : St) (res : (Unit × St)) (hK209 : ∀ (v1 : Int32) (st : St), K209 v1 st = some res → At p l e (rmK 0) s m args below meth c D G ad (MQV D G ad below args s res) 2 st [(0, .ref (ad 130)), (1, .int v1)] 209 []) (hf : fX11_keeps_s209 n K209  v1 st = some res) : At p l e (rmK 0) s m args below meth c D G ad (MQV D G ad below args s res) 2 st [(0, .ref (ad 130)), (1, .int v1)] 209 [] := by
  obtain ⟨hx, hb, hml, hown, hts, hr, hlk, hK, had, hSt⟩ := id C
  intro H locs ls hl hP hS
  unfold fX11_keeps_s209 at hf
  refine lv_iload_n hx hb dX11_keeps_209 rfl (lv_at hl 1 rfl) ?_
  refine lv_sipush (v := 320) hx hb dX11_keeps_210 (by decide) ?_
  refine lv_icmp_ge (tgt := 246) hx hb dX11_keeps_213 (by decide) (fun q => ?_) (fun q => ?_)
  · exact wX11_keeps_s246 C n st res (it hf q) H locs ls (lv_sub hl [] rfl) hP hS
  · exact wX11_keeps_s216 C n K209 v1 st res hK209 (ie hf q) H locs ls (lv_sub hl [0, 1] rfl) hP hS
def fX11_keeps_L209 (n : Nat)   : Nat → Int32 → St → Option (Unit × St)
  | 0, _, _ => none
  | k + 1, v1, st => fX11_keeps_s209 n (fX11_keeps_L209 n k)  v1 st
theorem wX11_keeps_L209 (C : Cx p s m args meth c cX11_keeps 2 wsL_law RX11 none D G ad) (n : Nat)    (res : (Unit × St))  : ∀ (k : Nat) (v1 : Int32)  (st : St), fX11_keeps_L209 n k v1 st = some res → At p l e (rmK 0) s m args below meth c D G ad (MQV D G ad below args s res) 2 st [(0, .ref (ad 130)), (1, .int v1)] 209 [] := by
  intro k
  induction k with
  | zero => intro v1  st h; exact absurd h (by intro q; cases q)
  | succ k ih => intro v1  st h; exact wX11_keeps_s209 C n (fX11_keeps_L209 n k)  v1   st res ih h
def fX11_keeps_s207 (n : Nat)    (st : St) : Option (Unit × St) := fX11_keeps_L209 n n 0 st
set_option maxHeartbeats 4000000 in
set_option maxRecDepth 100000 in
theorem wX11_keeps_s207 (C : Cx p s m args meth c cX11_keeps 2 wsL_law RX11 none D G ad) (n : Nat)      (st : St) (res : (Unit × St))  (hf : fX11_keeps_s207 n    st = some res) : At p l e (rmK 0) s m args below meth c D G ad (MQV D G ad below args s res) 2 st [(0, .ref (ad 130))] 207 [] := by
  obtain ⟨hx, hb, hml, hown, hts, hr, hlk, hK, had, hSt⟩ := id C
  intro H locs ls hl hP hS
  unfold fX11_keeps_s207 at hf
  refine lv_iconst (v := 0) hx hb dX11_keeps_207 (by decide) ?_
  refine lv_istore_n (lv' := [(1, .int 0), (0, .ref (ad 130))]) hx hb dX11_keeps_208 rfl hl (by decide) rfl (fun ls hl => ?_)
  exact wX11_keeps_L209 C n res n 0 st hf H locs ls (lv_sub hl [1, 0] rfl) hP hS
def fX11_keeps_s201 (n : Nat) (K183 : Int32 → St → Option (Unit × St))  (v1 : Int32) (st : St) : Option (Unit × St) := K183 (v1 + 1) st
set_option maxHeartbeats 4000000 in
set_option maxRecDepth 100000 in
theorem wX11_keeps_s201 (C : Cx p s m args meth c cX11_keeps 2 wsL_law RX11 none D G ad) (n : Nat) (K183 : Int32 → St → Option (Unit × St))  (v1 : Int32)   (st : St) (res : (Unit × St)) (hK183 : ∀ (v1 : Int32) (st : St), K183 v1 st = some res → At p l e (rmK 0) s m args below meth c D G ad (MQV D G ad below args s res) 2 st [(0, .ref (ad 130)), (1, .int v1)] 183 []) (hf : fX11_keeps_s201 n K183  v1 st = some res) : At p l e (rmK 0) s m args below meth c D G ad (MQV D G ad below args s res) 2 st [(0, .ref (ad 130)), (1, .int v1)] 201 [] := by
  obtain ⟨hx, hb, hml, hown, hts, hr, hlk, hK, had, hSt⟩ := id C
  intro H locs ls hl hP hS
  unfold fX11_keeps_s201 at hf
  refine lv_iinc (v := v1 + 1) (lv' := [(1, .int (v1 + 1)), (0, .ref (ad 130))]) hx hb dX11_keeps_201 hl (k := 1) rfl rfl (by decide) rfl (fun ls hl => ?_)
  refine lv_goto (tgt := 183) hx hb dX11_keeps_204 (by decide) ?_
  exact hK183 (v1 + 1)  st hf H locs ls (lv_sub hl [1, 0] rfl) hP hS
def fX11_keeps_s189 (n : Nat) (K183 : Int32 → St → Option (Unit × St))  (v1 : Int32) (st : St) : Option (Unit × St) := if inb v1 32 = true then (if inb v1 32 = true then (fX11_keeps_s201 n K183 v1 (setJ st 173 v1.toNatClampNeg (st.2 144 v1.toNatClampNeg))) else none) else none
set_option maxHeartbeats 4000000 in
set_option maxRecDepth 100000 in
theorem wX11_keeps_s189 (C : Cx p s m args meth c cX11_keeps 2 wsL_law RX11 none D G ad) (n : Nat) (K183 : Int32 → St → Option (Unit × St))  (v1 : Int32)   (st : St) (res : (Unit × St)) (hK183 : ∀ (v1 : Int32) (st : St), K183 v1 st = some res → At p l e (rmK 0) s m args below meth c D G ad (MQV D G ad below args s res) 2 st [(0, .ref (ad 130)), (1, .int v1)] 183 []) (hf : fX11_keeps_s189 n K183  v1 st = some res) : At p l e (rmK 0) s m args below meth c D G ad (MQV D G ad below args s res) 2 st [(0, .ref (ad 130)), (1, .int v1)] 189 [] := by
  obtain ⟨hx, hb, hml, hown, hts, hr, hlk, hK, had, hSt⟩ := id C
  intro H locs ls hl hP hS
  unfold fX11_keeps_s189 at hf
  refine lv_aload_n hx hb dX11_keeps_189 rfl (lv_at hl 0 rfl) ?_
  refine g_getR hx hb hts inlX11 hown hK hP 130 ct_130 rfl 71 (by decide) (hts _ wm_9_1) rfl dX11_keeps_190 ?_
  refine lv_iload_n hx hb dX11_keeps_193 rfl (lv_at hl 1 rfl) ?_
  refine lv_aload_n hx hb dX11_keeps_194 rfl (lv_at hl 0 rfl) ?_
  refine g_getR hx hb hts inlX11 hown hK hP 130 ct_130 rfl 19 (by decide) (hts _ wm_7_15) rfl dX11_keeps_195 ?_
  refine lv_iload_n hx hb dX11_keeps_198 rfl (lv_at hl 1 rfl) ?_
  obtain ⟨g1, hf⟩ := gd hf
  refine g_lald hx hb hK hP 144 ct_144 g1 dX11_keeps_199 ?_
  obtain ⟨g2, hf⟩ := gd hf
  refine g_last hx hb hK had hP hS 173 ct_173 g2 dX11_keeps_200 (fun H locs hP hS => ?_)
  exact wX11_keeps_s201 C n K183 v1 (setJ st 173 v1.toNatClampNeg (st.2 144 v1.toNatClampNeg)) res hK183 hf H locs ls (lv_sub hl [0, 1] rfl) hP hS
def fX11_keeps_s183 (n : Nat) (K183 : Int32 → St → Option (Unit × St))  (v1 : Int32) (st : St) : Option (Unit × St) := if 32 ≤ v1 then fX11_keeps_s207 n st else fX11_keeps_s189 n K183 v1 st
set_option maxHeartbeats 4000000 in
set_option maxRecDepth 100000 in
theorem wX11_keeps_s183 (C : Cx p s m args meth c cX11_keeps 2 wsL_law RX11 none D G ad) (n : Nat) (K183 : Int32 → St → Option (Unit × St))  (v1 : Int32)   (st : St) (res : (Unit × St)) (hK183 : ∀ (v1 : Int32) (st : St), K183 v1 st = some res → At p l e (rmK 0) s m args below meth c D G ad (MQV D G ad below args s res) 2 st [(0, .ref (ad 130)), (1, .int v1)] 183 []) (hf : fX11_keeps_s183 n K183  v1 st = some res) : At p l e (rmK 0) s m args below meth c D G ad (MQV D G ad below args s res) 2 st [(0, .ref (ad 130)), (1, .int v1)] 183 [] := by
  obtain ⟨hx, hb, hml, hown, hts, hr, hlk, hK, had, hSt⟩ := id C
  intro H locs ls hl hP hS
  unfold fX11_keeps_s183 at hf
  refine lv_iload_n hx hb dX11_keeps_183 rfl (lv_at hl 1 rfl) ?_
  refine lv_bipush (v := 32) hx hb dX11_keeps_184 (by decide) ?_
  refine lv_icmp_ge (tgt := 207) hx hb dX11_keeps_186 (by decide) (fun q => ?_) (fun q => ?_)
  · exact wX11_keeps_s207 C n st res (it hf q) H locs ls (lv_sub hl [0] rfl) hP hS
  · exact wX11_keeps_s189 C n K183 v1 st res hK183 (ie hf q) H locs ls (lv_sub hl [0, 1] rfl) hP hS
def fX11_keeps_L183 (n : Nat)   : Nat → Int32 → St → Option (Unit × St)
  | 0, _, _ => none
  | k + 1, v1, st => fX11_keeps_s183 n (fX11_keeps_L183 n k)  v1 st
theorem wX11_keeps_L183 (C : Cx p s m args meth c cX11_keeps 2 wsL_law RX11 none D G ad) (n : Nat)    (res : (Unit × St))  : ∀ (k : Nat) (v1 : Int32)  (st : St), fX11_keeps_L183 n k v1 st = some res → At p l e (rmK 0) s m args below meth c D G ad (MQV D G ad below args s res) 2 st [(0, .ref (ad 130)), (1, .int v1)] 183 [] := by
  intro k
  induction k with
  | zero => intro v1  st h; exact absurd h (by intro q; cases q)
  | succ k ih => intro v1  st h; exact wX11_keeps_s183 C n (fX11_keeps_L183 n k)  v1   st res ih h
def fX11_keeps_s181 (n : Nat)    (st : St) : Option (Unit × St) := fX11_keeps_L183 n n 0 st
set_option maxHeartbeats 4000000 in
set_option maxRecDepth 100000 in
theorem wX11_keeps_s181 (C : Cx p s m args meth c cX11_keeps 2 wsL_law RX11 none D G ad) (n : Nat)      (st : St) (res : (Unit × St))  (hf : fX11_keeps_s181 n    st = some res) : At p l e (rmK 0) s m args below meth c D G ad (MQV D G ad below args s res) 2 st [(0, .ref (ad 130))] 181 [] := by
  obtain ⟨hx, hb, hml, hown, hts, hr, hlk, hK, had, hSt⟩ := id C
  intro H locs ls hl hP hS
  unfold fX11_keeps_s181 at hf
  refine lv_iconst (v := 0) hx hb dX11_keeps_181 (by decide) ?_
  refine lv_istore_n (lv' := [(1, .int 0), (0, .ref (ad 130))]) hx hb dX11_keeps_182 rfl hl (by decide) rfl (fun ls hl => ?_)
  exact wX11_keeps_L183 C n res n 0 st hf H locs ls (lv_sub hl [1, 0] rfl) hP hS
def fX11_keeps_s175 (n : Nat) (K157 : Int32 → St → Option (Unit × St))  (v1 : Int32) (st : St) : Option (Unit × St) := K157 (v1 + 1) st
set_option maxHeartbeats 4000000 in
set_option maxRecDepth 100000 in
theorem wX11_keeps_s175 (C : Cx p s m args meth c cX11_keeps 2 wsL_law RX11 none D G ad) (n : Nat) (K157 : Int32 → St → Option (Unit × St))  (v1 : Int32)   (st : St) (res : (Unit × St)) (hK157 : ∀ (v1 : Int32) (st : St), K157 v1 st = some res → At p l e (rmK 0) s m args below meth c D G ad (MQV D G ad below args s res) 2 st [(0, .ref (ad 130)), (1, .int v1)] 157 []) (hf : fX11_keeps_s175 n K157  v1 st = some res) : At p l e (rmK 0) s m args below meth c D G ad (MQV D G ad below args s res) 2 st [(0, .ref (ad 130)), (1, .int v1)] 175 [] := by
  obtain ⟨hx, hb, hml, hown, hts, hr, hlk, hK, had, hSt⟩ := id C
  intro H locs ls hl hP hS
  unfold fX11_keeps_s175 at hf
  refine lv_iinc (v := v1 + 1) (lv' := [(1, .int (v1 + 1)), (0, .ref (ad 130))]) hx hb dX11_keeps_175 hl (k := 1) rfl rfl (by decide) rfl (fun ls hl => ?_)
  refine lv_goto (tgt := 157) hx hb dX11_keeps_178 (by decide) ?_
  exact hK157 (v1 + 1)  st hf H locs ls (lv_sub hl [1, 0] rfl) hP hS
def fX11_keeps_s163 (n : Nat) (K157 : Int32 → St → Option (Unit × St))  (v1 : Int32) (st : St) : Option (Unit × St) := if inb v1 56 = true then (if inb v1 56 = true then (fX11_keeps_s175 n K157 v1 (setJ st 172 v1.toNatClampNeg (st.2 143 v1.toNatClampNeg))) else none) else none
set_option maxHeartbeats 4000000 in
set_option maxRecDepth 100000 in
theorem wX11_keeps_s163 (C : Cx p s m args meth c cX11_keeps 2 wsL_law RX11 none D G ad) (n : Nat) (K157 : Int32 → St → Option (Unit × St))  (v1 : Int32)   (st : St) (res : (Unit × St)) (hK157 : ∀ (v1 : Int32) (st : St), K157 v1 st = some res → At p l e (rmK 0) s m args below meth c D G ad (MQV D G ad below args s res) 2 st [(0, .ref (ad 130)), (1, .int v1)] 157 []) (hf : fX11_keeps_s163 n K157  v1 st = some res) : At p l e (rmK 0) s m args below meth c D G ad (MQV D G ad below args s res) 2 st [(0, .ref (ad 130)), (1, .int v1)] 163 [] := by
  obtain ⟨hx, hb, hml, hown, hts, hr, hlk, hK, had, hSt⟩ := id C
  intro H locs ls hl hP hS
  unfold fX11_keeps_s163 at hf
  refine lv_aload_n hx hb dX11_keeps_163 rfl (lv_at hl 0 rfl) ?_
  refine g_getR hx hb hts inlX11 hown hK hP 130 ct_130 rfl 70 (by decide) (hts _ wm_9_0) rfl dX11_keeps_164 ?_
  refine lv_iload_n hx hb dX11_keeps_167 rfl (lv_at hl 1 rfl) ?_
  refine lv_aload_n hx hb dX11_keeps_168 rfl (lv_at hl 0 rfl) ?_
  refine g_getR hx hb hts inlX11 hown hK hP 130 ct_130 rfl 18 (by decide) (hts _ wm_7_14) rfl dX11_keeps_169 ?_
  refine lv_iload_n hx hb dX11_keeps_172 rfl (lv_at hl 1 rfl) ?_
  obtain ⟨g1, hf⟩ := gd hf
  refine g_lald hx hb hK hP 143 ct_143 g1 dX11_keeps_173 ?_
  obtain ⟨g2, hf⟩ := gd hf
  refine g_last hx hb hK had hP hS 172 ct_172 g2 dX11_keeps_174 (fun H locs hP hS => ?_)
  exact wX11_keeps_s175 C n K157 v1 (setJ st 172 v1.toNatClampNeg (st.2 143 v1.toNatClampNeg)) res hK157 hf H locs ls (lv_sub hl [0, 1] rfl) hP hS
def fX11_keeps_s157 (n : Nat) (K157 : Int32 → St → Option (Unit × St))  (v1 : Int32) (st : St) : Option (Unit × St) := if 56 ≤ v1 then fX11_keeps_s181 n st else fX11_keeps_s163 n K157 v1 st
set_option maxHeartbeats 4000000 in
set_option maxRecDepth 100000 in
theorem wX11_keeps_s157 (C : Cx p s m args meth c cX11_keeps 2 wsL_law RX11 none D G ad) (n : Nat) (K157 : Int32 → St → Option (Unit × St))  (v1 : Int32)   (st : St) (res : (Unit × St)) (hK157 : ∀ (v1 : Int32) (st : St), K157 v1 st = some res → At p l e (rmK 0) s m args below meth c D G ad (MQV D G ad below args s res) 2 st [(0, .ref (ad 130)), (1, .int v1)] 157 []) (hf : fX11_keeps_s157 n K157  v1 st = some res) : At p l e (rmK 0) s m args below meth c D G ad (MQV D G ad below args s res) 2 st [(0, .ref (ad 130)), (1, .int v1)] 157 [] := by
  obtain ⟨hx, hb, hml, hown, hts, hr, hlk, hK, had, hSt⟩ := id C
  intro H locs ls hl hP hS
  unfold fX11_keeps_s157 at hf
  refine lv_iload_n hx hb dX11_keeps_157 rfl (lv_at hl 1 rfl) ?_
  refine lv_bipush (v := 56) hx hb dX11_keeps_158 (by decide) ?_
  refine lv_icmp_ge (tgt := 181) hx hb dX11_keeps_160 (by decide) (fun q => ?_) (fun q => ?_)
  · exact wX11_keeps_s181 C n st res (it hf q) H locs ls (lv_sub hl [0] rfl) hP hS
  · exact wX11_keeps_s163 C n K157 v1 st res hK157 (ie hf q) H locs ls (lv_sub hl [0, 1] rfl) hP hS
def fX11_keeps_L157 (n : Nat)   : Nat → Int32 → St → Option (Unit × St)
  | 0, _, _ => none
  | k + 1, v1, st => fX11_keeps_s157 n (fX11_keeps_L157 n k)  v1 st
theorem wX11_keeps_L157 (C : Cx p s m args meth c cX11_keeps 2 wsL_law RX11 none D G ad) (n : Nat)    (res : (Unit × St))  : ∀ (k : Nat) (v1 : Int32)  (st : St), fX11_keeps_L157 n k v1 st = some res → At p l e (rmK 0) s m args below meth c D G ad (MQV D G ad below args s res) 2 st [(0, .ref (ad 130)), (1, .int v1)] 157 [] := by
  intro k
  induction k with
  | zero => intro v1  st h; exact absurd h (by intro q; cases q)
  | succ k ih => intro v1  st h; exact wX11_keeps_s157 C n (fX11_keeps_L157 n k)  v1   st res ih h
def fX11_keeps_s155 (n : Nat)    (st : St) : Option (Unit × St) := fX11_keeps_L157 n n 0 st
set_option maxHeartbeats 4000000 in
set_option maxRecDepth 100000 in
theorem wX11_keeps_s155 (C : Cx p s m args meth c cX11_keeps 2 wsL_law RX11 none D G ad) (n : Nat)      (st : St) (res : (Unit × St))  (hf : fX11_keeps_s155 n    st = some res) : At p l e (rmK 0) s m args below meth c D G ad (MQV D G ad below args s res) 2 st [(0, .ref (ad 130))] 155 [] := by
  obtain ⟨hx, hb, hml, hown, hts, hr, hlk, hK, had, hSt⟩ := id C
  intro H locs ls hl hP hS
  unfold fX11_keeps_s155 at hf
  refine lv_iconst (v := 0) hx hb dX11_keeps_155 (by decide) ?_
  refine lv_istore_n (lv' := [(1, .int 0), (0, .ref (ad 130))]) hx hb dX11_keeps_156 rfl hl (by decide) rfl (fun ls hl => ?_)
  exact wX11_keeps_L157 C n res n 0 st hf H locs ls (lv_sub hl [1, 0] rfl) hP hS
def fX11_keeps_s149 (n : Nat) (K131 : Int32 → St → Option (Unit × St))  (v1 : Int32) (st : St) : Option (Unit × St) := K131 (v1 + 1) st
set_option maxHeartbeats 4000000 in
set_option maxRecDepth 100000 in
theorem wX11_keeps_s149 (C : Cx p s m args meth c cX11_keeps 2 wsL_law RX11 none D G ad) (n : Nat) (K131 : Int32 → St → Option (Unit × St))  (v1 : Int32)   (st : St) (res : (Unit × St)) (hK131 : ∀ (v1 : Int32) (st : St), K131 v1 st = some res → At p l e (rmK 0) s m args below meth c D G ad (MQV D G ad below args s res) 2 st [(0, .ref (ad 130)), (1, .int v1)] 131 []) (hf : fX11_keeps_s149 n K131  v1 st = some res) : At p l e (rmK 0) s m args below meth c D G ad (MQV D G ad below args s res) 2 st [(0, .ref (ad 130)), (1, .int v1)] 149 [] := by
  obtain ⟨hx, hb, hml, hown, hts, hr, hlk, hK, had, hSt⟩ := id C
  intro H locs ls hl hP hS
  unfold fX11_keeps_s149 at hf
  refine lv_iinc (v := v1 + 1) (lv' := [(1, .int (v1 + 1)), (0, .ref (ad 130))]) hx hb dX11_keeps_149 hl (k := 1) rfl rfl (by decide) rfl (fun ls hl => ?_)
  refine lv_goto (tgt := 131) hx hb dX11_keeps_152 (by decide) ?_
  exact hK131 (v1 + 1)  st hf H locs ls (lv_sub hl [1, 0] rfl) hP hS
def fX11_keeps_s137 (n : Nat) (K131 : Int32 → St → Option (Unit × St))  (v1 : Int32) (st : St) : Option (Unit × St) := if inb v1 64 = true then (if inb v1 64 = true then (fX11_keeps_s149 n K131 v1 (setJ st 171 v1.toNatClampNeg (st.2 142 v1.toNatClampNeg))) else none) else none
set_option maxHeartbeats 4000000 in
set_option maxRecDepth 100000 in
theorem wX11_keeps_s137 (C : Cx p s m args meth c cX11_keeps 2 wsL_law RX11 none D G ad) (n : Nat) (K131 : Int32 → St → Option (Unit × St))  (v1 : Int32)   (st : St) (res : (Unit × St)) (hK131 : ∀ (v1 : Int32) (st : St), K131 v1 st = some res → At p l e (rmK 0) s m args below meth c D G ad (MQV D G ad below args s res) 2 st [(0, .ref (ad 130)), (1, .int v1)] 131 []) (hf : fX11_keeps_s137 n K131  v1 st = some res) : At p l e (rmK 0) s m args below meth c D G ad (MQV D G ad below args s res) 2 st [(0, .ref (ad 130)), (1, .int v1)] 137 [] := by
  obtain ⟨hx, hb, hml, hown, hts, hr, hlk, hK, had, hSt⟩ := id C
  intro H locs ls hl hP hS
  unfold fX11_keeps_s137 at hf
  refine lv_aload_n hx hb dX11_keeps_137 rfl (lv_at hl 0 rfl) ?_
  refine g_getR hx hb hts inlX11 hown hK hP 130 ct_130 rfl 69 (by decide) (hts _ wm_8_23) rfl dX11_keeps_138 ?_
  refine lv_iload_n hx hb dX11_keeps_141 rfl (lv_at hl 1 rfl) ?_
  refine lv_aload_n hx hb dX11_keeps_142 rfl (lv_at hl 0 rfl) ?_
  refine g_getR hx hb hts inlX11 hown hK hP 130 ct_130 rfl 17 (by decide) (hts _ wm_7_13) rfl dX11_keeps_143 ?_
  refine lv_iload_n hx hb dX11_keeps_146 rfl (lv_at hl 1 rfl) ?_
  obtain ⟨g1, hf⟩ := gd hf
  refine g_lald hx hb hK hP 142 ct_142 g1 dX11_keeps_147 ?_
  obtain ⟨g2, hf⟩ := gd hf
  refine g_last hx hb hK had hP hS 171 ct_171 g2 dX11_keeps_148 (fun H locs hP hS => ?_)
  exact wX11_keeps_s149 C n K131 v1 (setJ st 171 v1.toNatClampNeg (st.2 142 v1.toNatClampNeg)) res hK131 hf H locs ls (lv_sub hl [0, 1] rfl) hP hS
def fX11_keeps_s131 (n : Nat) (K131 : Int32 → St → Option (Unit × St))  (v1 : Int32) (st : St) : Option (Unit × St) := if 64 ≤ v1 then fX11_keeps_s155 n st else fX11_keeps_s137 n K131 v1 st
set_option maxHeartbeats 4000000 in
set_option maxRecDepth 100000 in
theorem wX11_keeps_s131 (C : Cx p s m args meth c cX11_keeps 2 wsL_law RX11 none D G ad) (n : Nat) (K131 : Int32 → St → Option (Unit × St))  (v1 : Int32)   (st : St) (res : (Unit × St)) (hK131 : ∀ (v1 : Int32) (st : St), K131 v1 st = some res → At p l e (rmK 0) s m args below meth c D G ad (MQV D G ad below args s res) 2 st [(0, .ref (ad 130)), (1, .int v1)] 131 []) (hf : fX11_keeps_s131 n K131  v1 st = some res) : At p l e (rmK 0) s m args below meth c D G ad (MQV D G ad below args s res) 2 st [(0, .ref (ad 130)), (1, .int v1)] 131 [] := by
  obtain ⟨hx, hb, hml, hown, hts, hr, hlk, hK, had, hSt⟩ := id C
  intro H locs ls hl hP hS
  unfold fX11_keeps_s131 at hf
  refine lv_iload_n hx hb dX11_keeps_131 rfl (lv_at hl 1 rfl) ?_
  refine lv_bipush (v := 64) hx hb dX11_keeps_132 (by decide) ?_
  refine lv_icmp_ge (tgt := 155) hx hb dX11_keeps_134 (by decide) (fun q => ?_) (fun q => ?_)
  · exact wX11_keeps_s155 C n st res (it hf q) H locs ls (lv_sub hl [0] rfl) hP hS
  · exact wX11_keeps_s137 C n K131 v1 st res hK131 (ie hf q) H locs ls (lv_sub hl [0, 1] rfl) hP hS
def fX11_keeps_L131 (n : Nat)   : Nat → Int32 → St → Option (Unit × St)
  | 0, _, _ => none
  | k + 1, v1, st => fX11_keeps_s131 n (fX11_keeps_L131 n k)  v1 st
theorem wX11_keeps_L131 (C : Cx p s m args meth c cX11_keeps 2 wsL_law RX11 none D G ad) (n : Nat)    (res : (Unit × St))  : ∀ (k : Nat) (v1 : Int32)  (st : St), fX11_keeps_L131 n k v1 st = some res → At p l e (rmK 0) s m args below meth c D G ad (MQV D G ad below args s res) 2 st [(0, .ref (ad 130)), (1, .int v1)] 131 [] := by
  intro k
  induction k with
  | zero => intro v1  st h; exact absurd h (by intro q; cases q)
  | succ k ih => intro v1  st h; exact wX11_keeps_s131 C n (fX11_keeps_L131 n k)  v1   st res ih h
def fX11_keeps_s129 (n : Nat)    (st : St) : Option (Unit × St) := fX11_keeps_L131 n n 0 st
set_option maxHeartbeats 4000000 in
set_option maxRecDepth 100000 in
theorem wX11_keeps_s129 (C : Cx p s m args meth c cX11_keeps 2 wsL_law RX11 none D G ad) (n : Nat)      (st : St) (res : (Unit × St))  (hf : fX11_keeps_s129 n    st = some res) : At p l e (rmK 0) s m args below meth c D G ad (MQV D G ad below args s res) 2 st [(0, .ref (ad 130))] 129 [] := by
  obtain ⟨hx, hb, hml, hown, hts, hr, hlk, hK, had, hSt⟩ := id C
  intro H locs ls hl hP hS
  unfold fX11_keeps_s129 at hf
  refine lv_iconst (v := 0) hx hb dX11_keeps_129 (by decide) ?_
  refine lv_istore_n (lv' := [(1, .int 0), (0, .ref (ad 130))]) hx hb dX11_keeps_130 rfl hl (by decide) rfl (fun ls hl => ?_)
  exact wX11_keeps_L131 C n res n 0 st hf H locs ls (lv_sub hl [1, 0] rfl) hP hS
def fX11_keeps_s123 (n : Nat) (K33 : Int32 → St → Option (Unit × St))  (v1 : Int32) (st : St) : Option (Unit × St) := K33 (v1 + 1) st
set_option maxHeartbeats 4000000 in
set_option maxRecDepth 100000 in
theorem wX11_keeps_s123 (C : Cx p s m args meth c cX11_keeps 2 wsL_law RX11 none D G ad) (n : Nat) (K33 : Int32 → St → Option (Unit × St))  (v1 : Int32)   (st : St) (res : (Unit × St)) (hK33 : ∀ (v1 : Int32) (st : St), K33 v1 st = some res → At p l e (rmK 0) s m args below meth c D G ad (MQV D G ad below args s res) 2 st [(0, .ref (ad 130)), (1, .int v1)] 33 []) (hf : fX11_keeps_s123 n K33  v1 st = some res) : At p l e (rmK 0) s m args below meth c D G ad (MQV D G ad below args s res) 2 st [(0, .ref (ad 130)), (1, .int v1)] 123 [] := by
  obtain ⟨hx, hb, hml, hown, hts, hr, hlk, hK, had, hSt⟩ := id C
  intro H locs ls hl hP hS
  unfold fX11_keeps_s123 at hf
  refine lv_iinc (v := v1 + 1) (lv' := [(1, .int (v1 + 1)), (0, .ref (ad 130))]) hx hb dX11_keeps_123 hl (k := 1) rfl rfl (by decide) rfl (fun ls hl => ?_)
  refine lv_goto (tgt := 33) hx hb dX11_keeps_126 (by decide) ?_
  exact hK33 (v1 + 1)  st hf H locs ls (lv_sub hl [1, 0] rfl) hP hS
def fX11_keeps_s108 (n : Nat) (K33 : Int32 → St → Option (Unit × St))  (v1 : Int32) (st : St) : Option (Unit × St) := if inb v1 8 = true then (if inb (32 + v1) 40 = true then (fX11_keeps_s123 n K33 v1 (setJ st 170 (32 + v1).toNatClampNeg (st.2 148 v1.toNatClampNeg))) else none) else none
set_option maxHeartbeats 4000000 in
set_option maxRecDepth 100000 in
theorem wX11_keeps_s108 (C : Cx p s m args meth c cX11_keeps 2 wsL_law RX11 none D G ad) (n : Nat) (K33 : Int32 → St → Option (Unit × St))  (v1 : Int32)   (st : St) (res : (Unit × St)) (hK33 : ∀ (v1 : Int32) (st : St), K33 v1 st = some res → At p l e (rmK 0) s m args below meth c D G ad (MQV D G ad below args s res) 2 st [(0, .ref (ad 130)), (1, .int v1)] 33 []) (hf : fX11_keeps_s108 n K33  v1 st = some res) : At p l e (rmK 0) s m args below meth c D G ad (MQV D G ad below args s res) 2 st [(0, .ref (ad 130)), (1, .int v1)] 108 [] := by
  obtain ⟨hx, hb, hml, hown, hts, hr, hlk, hK, had, hSt⟩ := id C
  intro H locs ls hl hP hS
  unfold fX11_keeps_s108 at hf
  refine lv_aload_n hx hb dX11_keeps_108 rfl (lv_at hl 0 rfl) ?_
  refine g_getR hx hb hts inlX11 hown hK hP 130 ct_130 rfl 68 (by decide) (hts _ wm_8_22) rfl dX11_keeps_109 ?_
  refine lv_bipush (v := 32) hx hb dX11_keeps_112 (by decide) ?_
  refine lv_iload_n hx hb dX11_keeps_114 rfl (lv_at hl 1 rfl) ?_
  refine lv_iadd hx hb dX11_keeps_115 ?_
  refine lv_aload_n hx hb dX11_keeps_116 rfl (lv_at hl 0 rfl) ?_
  refine g_getR hx hb hts inlX11 hown hK hP 130 ct_130 rfl 23 (by decide) (hts _ wm_7_19) rfl dX11_keeps_117 ?_
  refine lv_iload_n hx hb dX11_keeps_120 rfl (lv_at hl 1 rfl) ?_
  obtain ⟨g1, hf⟩ := gd hf
  refine g_lald hx hb hK hP 148 ct_148 g1 dX11_keeps_121 ?_
  obtain ⟨g2, hf⟩ := gd hf
  refine g_last hx hb hK had hP hS 170 ct_170 g2 dX11_keeps_122 (fun H locs hP hS => ?_)
  exact wX11_keeps_s123 C n K33 v1 (setJ st 170 (32 + v1).toNatClampNeg (st.2 148 v1.toNatClampNeg)) res hK33 hf H locs ls (lv_sub hl [0, 1] rfl) hP hS
def fX11_keeps_s93 (n : Nat) (K33 : Int32 → St → Option (Unit × St))  (v1 : Int32) (st : St) : Option (Unit × St) := if inb v1 8 = true then (if inb (24 + v1) 40 = true then (fX11_keeps_s108 n K33 v1 (setJ st 170 (24 + v1).toNatClampNeg (st.2 147 v1.toNatClampNeg))) else none) else none
set_option maxHeartbeats 4000000 in
set_option maxRecDepth 100000 in
theorem wX11_keeps_s93 (C : Cx p s m args meth c cX11_keeps 2 wsL_law RX11 none D G ad) (n : Nat) (K33 : Int32 → St → Option (Unit × St))  (v1 : Int32)   (st : St) (res : (Unit × St)) (hK33 : ∀ (v1 : Int32) (st : St), K33 v1 st = some res → At p l e (rmK 0) s m args below meth c D G ad (MQV D G ad below args s res) 2 st [(0, .ref (ad 130)), (1, .int v1)] 33 []) (hf : fX11_keeps_s93 n K33  v1 st = some res) : At p l e (rmK 0) s m args below meth c D G ad (MQV D G ad below args s res) 2 st [(0, .ref (ad 130)), (1, .int v1)] 93 [] := by
  obtain ⟨hx, hb, hml, hown, hts, hr, hlk, hK, had, hSt⟩ := id C
  intro H locs ls hl hP hS
  unfold fX11_keeps_s93 at hf
  refine lv_aload_n hx hb dX11_keeps_93 rfl (lv_at hl 0 rfl) ?_
  refine g_getR hx hb hts inlX11 hown hK hP 130 ct_130 rfl 68 (by decide) (hts _ wm_8_22) rfl dX11_keeps_94 ?_
  refine lv_bipush (v := 24) hx hb dX11_keeps_97 (by decide) ?_
  refine lv_iload_n hx hb dX11_keeps_99 rfl (lv_at hl 1 rfl) ?_
  refine lv_iadd hx hb dX11_keeps_100 ?_
  refine lv_aload_n hx hb dX11_keeps_101 rfl (lv_at hl 0 rfl) ?_
  refine g_getR hx hb hts inlX11 hown hK hP 130 ct_130 rfl 22 (by decide) (hts _ wm_7_18) rfl dX11_keeps_102 ?_
  refine lv_iload_n hx hb dX11_keeps_105 rfl (lv_at hl 1 rfl) ?_
  obtain ⟨g1, hf⟩ := gd hf
  refine g_lald hx hb hK hP 147 ct_147 g1 dX11_keeps_106 ?_
  obtain ⟨g2, hf⟩ := gd hf
  refine g_last hx hb hK had hP hS 170 ct_170 g2 dX11_keeps_107 (fun H locs hP hS => ?_)
  exact wX11_keeps_s108 C n K33 v1 (setJ st 170 (24 + v1).toNatClampNeg (st.2 147 v1.toNatClampNeg)) res hK33 hf H locs ls (lv_sub hl [0, 1] rfl) hP hS
def fX11_keeps_s78 (n : Nat) (K33 : Int32 → St → Option (Unit × St))  (v1 : Int32) (st : St) : Option (Unit × St) := if inb v1 8 = true then (if inb (16 + v1) 40 = true then (fX11_keeps_s93 n K33 v1 (setJ st 170 (16 + v1).toNatClampNeg (st.2 146 v1.toNatClampNeg))) else none) else none
set_option maxHeartbeats 4000000 in
set_option maxRecDepth 100000 in
theorem wX11_keeps_s78 (C : Cx p s m args meth c cX11_keeps 2 wsL_law RX11 none D G ad) (n : Nat) (K33 : Int32 → St → Option (Unit × St))  (v1 : Int32)   (st : St) (res : (Unit × St)) (hK33 : ∀ (v1 : Int32) (st : St), K33 v1 st = some res → At p l e (rmK 0) s m args below meth c D G ad (MQV D G ad below args s res) 2 st [(0, .ref (ad 130)), (1, .int v1)] 33 []) (hf : fX11_keeps_s78 n K33  v1 st = some res) : At p l e (rmK 0) s m args below meth c D G ad (MQV D G ad below args s res) 2 st [(0, .ref (ad 130)), (1, .int v1)] 78 [] := by
  obtain ⟨hx, hb, hml, hown, hts, hr, hlk, hK, had, hSt⟩ := id C
  intro H locs ls hl hP hS
  unfold fX11_keeps_s78 at hf
  refine lv_aload_n hx hb dX11_keeps_78 rfl (lv_at hl 0 rfl) ?_
  refine g_getR hx hb hts inlX11 hown hK hP 130 ct_130 rfl 68 (by decide) (hts _ wm_8_22) rfl dX11_keeps_79 ?_
  refine lv_bipush (v := 16) hx hb dX11_keeps_82 (by decide) ?_
  refine lv_iload_n hx hb dX11_keeps_84 rfl (lv_at hl 1 rfl) ?_
  refine lv_iadd hx hb dX11_keeps_85 ?_
  refine lv_aload_n hx hb dX11_keeps_86 rfl (lv_at hl 0 rfl) ?_
  refine g_getR hx hb hts inlX11 hown hK hP 130 ct_130 rfl 21 (by decide) (hts _ wm_7_17) rfl dX11_keeps_87 ?_
  refine lv_iload_n hx hb dX11_keeps_90 rfl (lv_at hl 1 rfl) ?_
  obtain ⟨g1, hf⟩ := gd hf
  refine g_lald hx hb hK hP 146 ct_146 g1 dX11_keeps_91 ?_
  obtain ⟨g2, hf⟩ := gd hf
  refine g_last hx hb hK had hP hS 170 ct_170 g2 dX11_keeps_92 (fun H locs hP hS => ?_)
  exact wX11_keeps_s93 C n K33 v1 (setJ st 170 (16 + v1).toNatClampNeg (st.2 146 v1.toNatClampNeg)) res hK33 hf H locs ls (lv_sub hl [0, 1] rfl) hP hS
def fX11_keeps_s63 (n : Nat) (K33 : Int32 → St → Option (Unit × St))  (v1 : Int32) (st : St) : Option (Unit × St) := if inb v1 8 = true then (if inb (8 + v1) 40 = true then (fX11_keeps_s78 n K33 v1 (setJ st 170 (8 + v1).toNatClampNeg (st.2 145 v1.toNatClampNeg))) else none) else none
set_option maxHeartbeats 4000000 in
set_option maxRecDepth 100000 in
theorem wX11_keeps_s63 (C : Cx p s m args meth c cX11_keeps 2 wsL_law RX11 none D G ad) (n : Nat) (K33 : Int32 → St → Option (Unit × St))  (v1 : Int32)   (st : St) (res : (Unit × St)) (hK33 : ∀ (v1 : Int32) (st : St), K33 v1 st = some res → At p l e (rmK 0) s m args below meth c D G ad (MQV D G ad below args s res) 2 st [(0, .ref (ad 130)), (1, .int v1)] 33 []) (hf : fX11_keeps_s63 n K33  v1 st = some res) : At p l e (rmK 0) s m args below meth c D G ad (MQV D G ad below args s res) 2 st [(0, .ref (ad 130)), (1, .int v1)] 63 [] := by
  obtain ⟨hx, hb, hml, hown, hts, hr, hlk, hK, had, hSt⟩ := id C
  intro H locs ls hl hP hS
  unfold fX11_keeps_s63 at hf
  refine lv_aload_n hx hb dX11_keeps_63 rfl (lv_at hl 0 rfl) ?_
  refine g_getR hx hb hts inlX11 hown hK hP 130 ct_130 rfl 68 (by decide) (hts _ wm_8_22) rfl dX11_keeps_64 ?_
  refine lv_bipush (v := 8) hx hb dX11_keeps_67 (by decide) ?_
  refine lv_iload_n hx hb dX11_keeps_69 rfl (lv_at hl 1 rfl) ?_
  refine lv_iadd hx hb dX11_keeps_70 ?_
  refine lv_aload_n hx hb dX11_keeps_71 rfl (lv_at hl 0 rfl) ?_
  refine g_getR hx hb hts inlX11 hown hK hP 130 ct_130 rfl 20 (by decide) (hts _ wm_7_16) rfl dX11_keeps_72 ?_
  refine lv_iload_n hx hb dX11_keeps_75 rfl (lv_at hl 1 rfl) ?_
  obtain ⟨g1, hf⟩ := gd hf
  refine g_lald hx hb hK hP 145 ct_145 g1 dX11_keeps_76 ?_
  obtain ⟨g2, hf⟩ := gd hf
  refine g_last hx hb hK had hP hS 170 ct_170 g2 dX11_keeps_77 (fun H locs hP hS => ?_)
  exact wX11_keeps_s78 C n K33 v1 (setJ st 170 (8 + v1).toNatClampNeg (st.2 145 v1.toNatClampNeg)) res hK33 hf H locs ls (lv_sub hl [0, 1] rfl) hP hS
def fX11_keeps_s51 (n : Nat) (K33 : Int32 → St → Option (Unit × St))  (v1 : Int32) (st : St) : Option (Unit × St) := if inb v1 8 = true then (if inb v1 40 = true then (fX11_keeps_s63 n K33 v1 (setJ st 170 v1.toNatClampNeg (st.2 141 v1.toNatClampNeg))) else none) else none
set_option maxHeartbeats 4000000 in
set_option maxRecDepth 100000 in
theorem wX11_keeps_s51 (C : Cx p s m args meth c cX11_keeps 2 wsL_law RX11 none D G ad) (n : Nat) (K33 : Int32 → St → Option (Unit × St))  (v1 : Int32)   (st : St) (res : (Unit × St)) (hK33 : ∀ (v1 : Int32) (st : St), K33 v1 st = some res → At p l e (rmK 0) s m args below meth c D G ad (MQV D G ad below args s res) 2 st [(0, .ref (ad 130)), (1, .int v1)] 33 []) (hf : fX11_keeps_s51 n K33  v1 st = some res) : At p l e (rmK 0) s m args below meth c D G ad (MQV D G ad below args s res) 2 st [(0, .ref (ad 130)), (1, .int v1)] 51 [] := by
  obtain ⟨hx, hb, hml, hown, hts, hr, hlk, hK, had, hSt⟩ := id C
  intro H locs ls hl hP hS
  unfold fX11_keeps_s51 at hf
  refine lv_aload_n hx hb dX11_keeps_51 rfl (lv_at hl 0 rfl) ?_
  refine g_getR hx hb hts inlX11 hown hK hP 130 ct_130 rfl 68 (by decide) (hts _ wm_8_22) rfl dX11_keeps_52 ?_
  refine lv_iload_n hx hb dX11_keeps_55 rfl (lv_at hl 1 rfl) ?_
  refine lv_aload_n hx hb dX11_keeps_56 rfl (lv_at hl 0 rfl) ?_
  refine g_getR hx hb hts inlX11 hown hK hP 130 ct_130 rfl 16 (by decide) (hts _ wm_7_12) rfl dX11_keeps_57 ?_
  refine lv_iload_n hx hb dX11_keeps_60 rfl (lv_at hl 1 rfl) ?_
  obtain ⟨g1, hf⟩ := gd hf
  refine g_lald hx hb hK hP 141 ct_141 g1 dX11_keeps_61 ?_
  obtain ⟨g2, hf⟩ := gd hf
  refine g_last hx hb hK had hP hS 170 ct_170 g2 dX11_keeps_62 (fun H locs hP hS => ?_)
  exact wX11_keeps_s63 C n K33 v1 (setJ st 170 v1.toNatClampNeg (st.2 141 v1.toNatClampNeg)) res hK33 hf H locs ls (lv_sub hl [0, 1] rfl) hP hS
def fX11_keeps_s39 (n : Nat) (K33 : Int32 → St → Option (Unit × St))  (v1 : Int32) (st : St) : Option (Unit × St) := if inb v1 8 = true then (if inb v1 8 = true then (fX11_keeps_s51 n K33 v1 (setI st 169 v1.toNatClampNeg (st.1 140 v1.toNatClampNeg))) else none) else none
set_option maxHeartbeats 4000000 in
set_option maxRecDepth 100000 in
theorem wX11_keeps_s39 (C : Cx p s m args meth c cX11_keeps 2 wsL_law RX11 none D G ad) (n : Nat) (K33 : Int32 → St → Option (Unit × St))  (v1 : Int32)   (st : St) (res : (Unit × St)) (hK33 : ∀ (v1 : Int32) (st : St), K33 v1 st = some res → At p l e (rmK 0) s m args below meth c D G ad (MQV D G ad below args s res) 2 st [(0, .ref (ad 130)), (1, .int v1)] 33 []) (hf : fX11_keeps_s39 n K33  v1 st = some res) : At p l e (rmK 0) s m args below meth c D G ad (MQV D G ad below args s res) 2 st [(0, .ref (ad 130)), (1, .int v1)] 39 [] := by
  obtain ⟨hx, hb, hml, hown, hts, hr, hlk, hK, had, hSt⟩ := id C
  intro H locs ls hl hP hS
  unfold fX11_keeps_s39 at hf
  refine lv_aload_n hx hb dX11_keeps_39 rfl (lv_at hl 0 rfl) ?_
  refine g_getR hx hb hts inlX11 hown hK hP 130 ct_130 rfl 67 (by decide) (hts _ wm_8_21) rfl dX11_keeps_40 ?_
  refine lv_iload_n hx hb dX11_keeps_43 rfl (lv_at hl 1 rfl) ?_
  refine lv_aload_n hx hb dX11_keeps_44 rfl (lv_at hl 0 rfl) ?_
  refine g_getR hx hb hts inlX11 hown hK hP 130 ct_130 rfl 15 (by decide) (hts _ wm_7_11) rfl dX11_keeps_45 ?_
  refine lv_iload_n hx hb dX11_keeps_48 rfl (lv_at hl 1 rfl) ?_
  obtain ⟨g1, hf⟩ := gd hf
  refine g_iald hx hb hK hP 140 ct_140 g1 dX11_keeps_49 ?_
  obtain ⟨g2, hf⟩ := gd hf
  refine g_iast hx hb hK had hP hS 169 ct_169 g2 dX11_keeps_50 (fun H locs hP hS => ?_)
  exact wX11_keeps_s51 C n K33 v1 (setI st 169 v1.toNatClampNeg (st.1 140 v1.toNatClampNeg)) res hK33 hf H locs ls (lv_sub hl [0, 1] rfl) hP hS
def fX11_keeps_s33 (n : Nat) (K33 : Int32 → St → Option (Unit × St))  (v1 : Int32) (st : St) : Option (Unit × St) := if 8 ≤ v1 then fX11_keeps_s129 n st else fX11_keeps_s39 n K33 v1 st
set_option maxHeartbeats 4000000 in
set_option maxRecDepth 100000 in
theorem wX11_keeps_s33 (C : Cx p s m args meth c cX11_keeps 2 wsL_law RX11 none D G ad) (n : Nat) (K33 : Int32 → St → Option (Unit × St))  (v1 : Int32)   (st : St) (res : (Unit × St)) (hK33 : ∀ (v1 : Int32) (st : St), K33 v1 st = some res → At p l e (rmK 0) s m args below meth c D G ad (MQV D G ad below args s res) 2 st [(0, .ref (ad 130)), (1, .int v1)] 33 []) (hf : fX11_keeps_s33 n K33  v1 st = some res) : At p l e (rmK 0) s m args below meth c D G ad (MQV D G ad below args s res) 2 st [(0, .ref (ad 130)), (1, .int v1)] 33 [] := by
  obtain ⟨hx, hb, hml, hown, hts, hr, hlk, hK, had, hSt⟩ := id C
  intro H locs ls hl hP hS
  unfold fX11_keeps_s33 at hf
  refine lv_iload_n hx hb dX11_keeps_33 rfl (lv_at hl 1 rfl) ?_
  refine lv_bipush (v := 8) hx hb dX11_keeps_34 (by decide) ?_
  refine lv_icmp_ge (tgt := 129) hx hb dX11_keeps_36 (by decide) (fun q => ?_) (fun q => ?_)
  · exact wX11_keeps_s129 C n st res (it hf q) H locs ls (lv_sub hl [0] rfl) hP hS
  · exact wX11_keeps_s39 C n K33 v1 st res hK33 (ie hf q) H locs ls (lv_sub hl [0, 1] rfl) hP hS
def fX11_keeps_L33 (n : Nat)   : Nat → Int32 → St → Option (Unit × St)
  | 0, _, _ => none
  | k + 1, v1, st => fX11_keeps_s33 n (fX11_keeps_L33 n k)  v1 st
theorem wX11_keeps_L33 (C : Cx p s m args meth c cX11_keeps 2 wsL_law RX11 none D G ad) (n : Nat)    (res : (Unit × St))  : ∀ (k : Nat) (v1 : Int32)  (st : St), fX11_keeps_L33 n k v1 st = some res → At p l e (rmK 0) s m args below meth c D G ad (MQV D G ad below args s res) 2 st [(0, .ref (ad 130)), (1, .int v1)] 33 [] := by
  intro k
  induction k with
  | zero => intro v1  st h; exact absurd h (by intro q; cases q)
  | succ k ih => intro v1  st h; exact wX11_keeps_s33 C n (fX11_keeps_L33 n k)  v1   st res ih h
def fX11_keeps_s31 (n : Nat)    (st : St) : Option (Unit × St) := fX11_keeps_L33 n n 0 st
set_option maxHeartbeats 4000000 in
set_option maxRecDepth 100000 in
theorem wX11_keeps_s31 (C : Cx p s m args meth c cX11_keeps 2 wsL_law RX11 none D G ad) (n : Nat)      (st : St) (res : (Unit × St))  (hf : fX11_keeps_s31 n    st = some res) : At p l e (rmK 0) s m args below meth c D G ad (MQV D G ad below args s res) 2 st [(0, .ref (ad 130))] 31 [] := by
  obtain ⟨hx, hb, hml, hown, hts, hr, hlk, hK, had, hSt⟩ := id C
  intro H locs ls hl hP hS
  unfold fX11_keeps_s31 at hf
  refine lv_iconst (v := 0) hx hb dX11_keeps_31 (by decide) ?_
  refine lv_istore_n (lv' := [(1, .int 0), (0, .ref (ad 130))]) hx hb dX11_keeps_32 rfl hl (by decide) rfl (fun ls hl => ?_)
  exact wX11_keeps_L33 C n res n 0 st hf H locs ls (lv_sub hl [1, 0] rfl) hP hS
def fX11_keeps_s21 (n : Nat)    (st : St) : Option (Unit × St) := if inb 2 3 = true then (fX11_keeps_s31 n (setJ st 168 (2 : Int32).toNatClampNeg (st.2 130 14))) else none
set_option maxHeartbeats 4000000 in
set_option maxRecDepth 100000 in
theorem wX11_keeps_s21 (C : Cx p s m args meth c cX11_keeps 2 wsL_law RX11 none D G ad) (n : Nat)      (st : St) (res : (Unit × St))  (hf : fX11_keeps_s21 n    st = some res) : At p l e (rmK 0) s m args below meth c D G ad (MQV D G ad below args s res) 2 st [(0, .ref (ad 130))] 21 [] := by
  obtain ⟨hx, hb, hml, hown, hts, hr, hlk, hK, had, hSt⟩ := id C
  intro H locs ls hl hP hS
  unfold fX11_keeps_s21 at hf
  refine lv_aload_n hx hb dX11_keeps_21 rfl (lv_at hl 0 rfl) ?_
  refine g_getR hx hb hts inlX11 hown hK hP 130 ct_130 rfl 66 (by decide) (hts _ wm_8_20) rfl dX11_keeps_22 ?_
  refine lv_iconst (v := 2) hx hb dX11_keeps_25 (by decide) ?_
  refine lv_aload_n hx hb dX11_keeps_26 rfl (lv_at hl 0 rfl) ?_
  refine g_getJ hx hb hts inlX11 hown hK hP 130 ct_130 rfl 14 (by decide) (hts _ wm_16_15) rfl dX11_keeps_27 ?_
  obtain ⟨g1, hf⟩ := gd hf
  refine g_last hx hb hK had hP hS 168 ct_168 g1 dX11_keeps_30 (fun H locs hP hS => ?_)
  exact wX11_keeps_s31 C n (setJ st 168 (2 : Int32).toNatClampNeg (st.2 130 14)) res hf H locs ls (lv_sub hl [0] rfl) hP hS
def fX11_keeps_s11 (n : Nat)    (st : St) : Option (Unit × St) := if inb 1 3 = true then (fX11_keeps_s21 n (setJ st 168 (1 : Int32).toNatClampNeg (st.2 130 13))) else none
set_option maxHeartbeats 4000000 in
set_option maxRecDepth 100000 in
theorem wX11_keeps_s11 (C : Cx p s m args meth c cX11_keeps 2 wsL_law RX11 none D G ad) (n : Nat)      (st : St) (res : (Unit × St))  (hf : fX11_keeps_s11 n    st = some res) : At p l e (rmK 0) s m args below meth c D G ad (MQV D G ad below args s res) 2 st [(0, .ref (ad 130))] 11 [] := by
  obtain ⟨hx, hb, hml, hown, hts, hr, hlk, hK, had, hSt⟩ := id C
  intro H locs ls hl hP hS
  unfold fX11_keeps_s11 at hf
  refine lv_aload_n hx hb dX11_keeps_11 rfl (lv_at hl 0 rfl) ?_
  refine g_getR hx hb hts inlX11 hown hK hP 130 ct_130 rfl 66 (by decide) (hts _ wm_8_20) rfl dX11_keeps_12 ?_
  refine lv_iconst (v := 1) hx hb dX11_keeps_15 (by decide) ?_
  refine lv_aload_n hx hb dX11_keeps_16 rfl (lv_at hl 0 rfl) ?_
  refine g_getJ hx hb hts inlX11 hown hK hP 130 ct_130 rfl 13 (by decide) (hts _ wm_16_14) rfl dX11_keeps_17 ?_
  obtain ⟨g1, hf⟩ := gd hf
  refine g_last hx hb hK had hP hS 168 ct_168 g1 dX11_keeps_20 (fun H locs hP hS => ?_)
  exact wX11_keeps_s21 C n (setJ st 168 (1 : Int32).toNatClampNeg (st.2 130 13)) res hf H locs ls (lv_sub hl [0] rfl) hP hS
def fX11_keeps_s0 (n : Nat)    (st : St) : Option (Unit × St) := if inb 0 3 = true then (fX11_keeps_s11 n (setJ st 168 (0 : Int32).toNatClampNeg ((st.1 130 12).toInt64))) else none
set_option maxHeartbeats 4000000 in
set_option maxRecDepth 100000 in
theorem wX11_keeps_s0 (C : Cx p s m args meth c cX11_keeps 2 wsL_law RX11 none D G ad) (n : Nat)      (st : St) (res : (Unit × St))  (hf : fX11_keeps_s0 n    st = some res) : At p l e (rmK 0) s m args below meth c D G ad (MQV D G ad below args s res) 2 st [(0, .ref (ad 130))] 0 [] := by
  obtain ⟨hx, hb, hml, hown, hts, hr, hlk, hK, had, hSt⟩ := id C
  intro H locs ls hl hP hS
  unfold fX11_keeps_s0 at hf
  refine lv_aload_n hx hb dX11_keeps_0 rfl (lv_at hl 0 rfl) ?_
  refine g_getR hx hb hts inlX11 hown hK hP 130 ct_130 rfl 66 (by decide) (hts _ wm_8_20) rfl dX11_keeps_1 ?_
  refine lv_iconst (v := 0) hx hb dX11_keeps_4 (by decide) ?_
  refine lv_aload_n hx hb dX11_keeps_5 rfl (lv_at hl 0 rfl) ?_
  refine g_getI hx hb hts inlX11 hown hK hP 130 ct_130 rfl 12 (by decide) (hts _ wm_10_15) rfl dX11_keeps_6 ?_
  refine lv_i2l hx hb dX11_keeps_9 rfl ?_
  obtain ⟨g1, hf⟩ := gd hf
  refine g_last hx hb hK had hP hS 168 ct_168 g1 dX11_keeps_10 (fun H locs hP hS => ?_)
  exact wX11_keeps_s11 C n (setJ st 168 (0 : Int32).toNatClampNeg ((st.1 130 12).toInt64)) res hf H locs ls (lv_sub hl [0] rfl) hP hS
def fX11_keeps (n : Nat)   (st : St) : Option (Unit × St) := fX11_keeps_s0 n st
theorem okX11_keeps : okY yX11_keeps RX11 0 := by unfold okY; decide +kernel
end
set_option maxRecDepth 100000 in
theorem kX11_keeps (l : Launch) (D : va_G) (G : G3) (ad : Nat → Nat) (had : Adr ad) (n : Nat)    (st : St) (res : (Unit × St)) (hf : fX11_keeps n   st = some res) {sz : Nat} : CtV l yX11_keeps (wsU yX11_keeps cX11_keeps 2 none) (rmK 0) D G ad sz [.ref (ad 130)] st res := by
  refine Met.ofW (cc := cX11_keeps) (maxL := 2) (ret := none) (by decide) rfl ?_
  intro p e s m args below meth c s₁ B hml hv
  obtain ⟨rfl, hsz, hP, hK, hSt⟩ := hv
  have hts := atoms_spec (ws := wsU yX11_keeps cX11_keeps 2 none) B.pre
  have C : Cx p s m _ meth c cX11_keeps 2 wsL_law RX11 none D G ad := ⟨B.exec, B.bytes, hml, findClass_of_methodNamed B.named, fun w h => hts w (List.mem_cons_of_mem _ h), B.returns, B.notSynchronized, hK, had, hSt⟩
  subst hsz
  have hl := lv_entry ([.ref (ad 130)]) (n := 2) (Nat.le_of_ble_eq_true rfl)
  rw [lg_entry_eq]
  generalize (lg_sl ([.ref (ad 130)]) ++ List.replicate (2 - (lg_sl ([.ref (ad 130)])).length) Slot.unset).toArray = ls at hl ⊢
  exact wX11_keeps_s0 C n     st res hf s.heap [] ls (lv_sub hl [0] rfl) hP va_S.rf
section
variable {p : Program} {l : Launch} {e : Env} {s : State} {m : MethodId} {args : Array Value} {below : List Frame} {meth : Method} {c : Code} {D : va_G} {G : G3} {ad : Nat → Nat}
def fX11_lays_s246 (n : Nat)    (st : St) : Option (Unit × St) := some ((), st)
set_option maxHeartbeats 4000000 in
set_option maxRecDepth 100000 in
theorem wX11_lays_s246 (C : Cx p s m args meth c cX11_lays 2 wsL_law RX11 none D G ad) (n : Nat)      (st : St) (res : (Unit × St))  (hf : fX11_lays_s246 n    st = some res) : At p l e (rmK 0) s m args below meth c D G ad (MQV D G ad below args s res) 2 st [] 246 [] := by
  obtain ⟨hx, hb, hml, hown, hts, hr, hlk, hK, had, hSt⟩ := id C
  intro H locs ls hl hP hS
  unfold fX11_lays_s246 at hf
  exact g_vret hx hb hr hlk hP hS dX11_lays_246 hf
def fX11_lays_s240 (n : Nat) (K209 : Int32 → St → Option (Unit × St))  (v1 : Int32) (st : St) : Option (Unit × St) := K209 (v1 + 1) st
set_option maxHeartbeats 4000000 in
set_option maxRecDepth 100000 in
theorem wX11_lays_s240 (C : Cx p s m args meth c cX11_lays 2 wsL_law RX11 none D G ad) (n : Nat) (K209 : Int32 → St → Option (Unit × St))  (v1 : Int32)   (st : St) (res : (Unit × St)) (hK209 : ∀ (v1 : Int32) (st : St), K209 v1 st = some res → At p l e (rmK 0) s m args below meth c D G ad (MQV D G ad below args s res) 2 st [(0, .ref (ad 130)), (1, .int v1)] 209 []) (hf : fX11_lays_s240 n K209  v1 st = some res) : At p l e (rmK 0) s m args below meth c D G ad (MQV D G ad below args s res) 2 st [(0, .ref (ad 130)), (1, .int v1)] 240 [] := by
  obtain ⟨hx, hb, hml, hown, hts, hr, hlk, hK, had, hSt⟩ := id C
  intro H locs ls hl hP hS
  unfold fX11_lays_s240 at hf
  refine lv_iinc (v := v1 + 1) (lv' := [(1, .int (v1 + 1)), (0, .ref (ad 130))]) hx hb dX11_lays_240 hl (k := 1) rfl rfl (by decide) rfl (fun ls hl => ?_)
  refine lv_goto (tgt := 209) hx hb dX11_lays_243 (by decide) ?_
  exact hK209 (v1 + 1)  st hf H locs ls (lv_sub hl [1, 0] rfl) hP hS
def fX11_lays_s228 (n : Nat) (K209 : Int32 → St → Option (Unit × St))  (v1 : Int32) (st : St) : Option (Unit × St) := if inb v1 320 = true then (if inb v1 320 = true then (fX11_lays_s240 n K209 v1 (setJ st 150 v1.toNatClampNeg (st.2 175 v1.toNatClampNeg))) else none) else none
set_option maxHeartbeats 4000000 in
set_option maxRecDepth 100000 in
theorem wX11_lays_s228 (C : Cx p s m args meth c cX11_lays 2 wsL_law RX11 none D G ad) (n : Nat) (K209 : Int32 → St → Option (Unit × St))  (v1 : Int32)   (st : St) (res : (Unit × St)) (hK209 : ∀ (v1 : Int32) (st : St), K209 v1 st = some res → At p l e (rmK 0) s m args below meth c D G ad (MQV D G ad below args s res) 2 st [(0, .ref (ad 130)), (1, .int v1)] 209 []) (hf : fX11_lays_s228 n K209  v1 st = some res) : At p l e (rmK 0) s m args below meth c D G ad (MQV D G ad below args s res) 2 st [(0, .ref (ad 130)), (1, .int v1)] 228 [] := by
  obtain ⟨hx, hb, hml, hown, hts, hr, hlk, hK, had, hSt⟩ := id C
  intro H locs ls hl hP hS
  unfold fX11_lays_s228 at hf
  refine lv_aload_n hx hb dX11_lays_228 rfl (lv_at hl 0 rfl) ?_
  refine g_getR hx hb hts inlX11 hown hK hP 130 ct_130 rfl 25 (by decide) (hts _ wm_7_21) rfl dX11_lays_229 ?_
  refine lv_iload_n hx hb dX11_lays_232 rfl (lv_at hl 1 rfl) ?_
  refine lv_aload_n hx hb dX11_lays_233 rfl (lv_at hl 0 rfl) ?_
  refine g_getR hx hb hts inlX11 hown hK hP 130 ct_130 rfl 73 (by decide) (hts _ wm_9_3) rfl dX11_lays_234 ?_
  refine lv_iload_n hx hb dX11_lays_237 rfl (lv_at hl 1 rfl) ?_
  obtain ⟨g1, hf⟩ := gd hf
  refine g_lald hx hb hK hP 175 ct_175 g1 dX11_lays_238 ?_
  obtain ⟨g2, hf⟩ := gd hf
  refine g_last hx hb hK had hP hS 150 ct_150 g2 dX11_lays_239 (fun H locs hP hS => ?_)
  exact wX11_lays_s240 C n K209 v1 (setJ st 150 v1.toNatClampNeg (st.2 175 v1.toNatClampNeg)) res hK209 hf H locs ls (lv_sub hl [0, 1] rfl) hP hS
def fX11_lays_s216 (n : Nat) (K209 : Int32 → St → Option (Unit × St))  (v1 : Int32) (st : St) : Option (Unit × St) := if inb v1 320 = true then (if inb v1 320 = true then (fX11_lays_s228 n K209 v1 (setJ st 149 v1.toNatClampNeg (st.2 174 v1.toNatClampNeg))) else none) else none
set_option maxHeartbeats 4000000 in
set_option maxRecDepth 100000 in
theorem wX11_lays_s216 (C : Cx p s m args meth c cX11_lays 2 wsL_law RX11 none D G ad) (n : Nat) (K209 : Int32 → St → Option (Unit × St))  (v1 : Int32)   (st : St) (res : (Unit × St)) (hK209 : ∀ (v1 : Int32) (st : St), K209 v1 st = some res → At p l e (rmK 0) s m args below meth c D G ad (MQV D G ad below args s res) 2 st [(0, .ref (ad 130)), (1, .int v1)] 209 []) (hf : fX11_lays_s216 n K209  v1 st = some res) : At p l e (rmK 0) s m args below meth c D G ad (MQV D G ad below args s res) 2 st [(0, .ref (ad 130)), (1, .int v1)] 216 [] := by
  obtain ⟨hx, hb, hml, hown, hts, hr, hlk, hK, had, hSt⟩ := id C
  intro H locs ls hl hP hS
  unfold fX11_lays_s216 at hf
  refine lv_aload_n hx hb dX11_lays_216 rfl (lv_at hl 0 rfl) ?_
  refine g_getR hx hb hts inlX11 hown hK hP 130 ct_130 rfl 24 (by decide) (hts _ wm_7_20) rfl dX11_lays_217 ?_
  refine lv_iload_n hx hb dX11_lays_220 rfl (lv_at hl 1 rfl) ?_
  refine lv_aload_n hx hb dX11_lays_221 rfl (lv_at hl 0 rfl) ?_
  refine g_getR hx hb hts inlX11 hown hK hP 130 ct_130 rfl 72 (by decide) (hts _ wm_9_2) rfl dX11_lays_222 ?_
  refine lv_iload_n hx hb dX11_lays_225 rfl (lv_at hl 1 rfl) ?_
  obtain ⟨g1, hf⟩ := gd hf
  refine g_lald hx hb hK hP 174 ct_174 g1 dX11_lays_226 ?_
  obtain ⟨g2, hf⟩ := gd hf
  refine g_last hx hb hK had hP hS 149 ct_149 g2 dX11_lays_227 (fun H locs hP hS => ?_)
  exact wX11_lays_s228 C n K209 v1 (setJ st 149 v1.toNatClampNeg (st.2 174 v1.toNatClampNeg)) res hK209 hf H locs ls (lv_sub hl [0, 1] rfl) hP hS
def fX11_lays_s209 (n : Nat) (K209 : Int32 → St → Option (Unit × St))  (v1 : Int32) (st : St) : Option (Unit × St) := if 320 ≤ v1 then fX11_lays_s246 n st else fX11_lays_s216 n K209 v1 st
set_option maxHeartbeats 4000000 in
set_option maxRecDepth 100000 in
theorem wX11_lays_s209 (C : Cx p s m args meth c cX11_lays 2 wsL_law RX11 none D G ad) (n : Nat) (K209 : Int32 → St → Option (Unit × St))  (v1 : Int32)   (st : St) (res : (Unit × St)) (hK209 : ∀ (v1 : Int32) (st : St), K209 v1 st = some res → At p l e (rmK 0) s m args below meth c D G ad (MQV D G ad below args s res) 2 st [(0, .ref (ad 130)), (1, .int v1)] 209 []) (hf : fX11_lays_s209 n K209  v1 st = some res) : At p l e (rmK 0) s m args below meth c D G ad (MQV D G ad below args s res) 2 st [(0, .ref (ad 130)), (1, .int v1)] 209 [] := by
  obtain ⟨hx, hb, hml, hown, hts, hr, hlk, hK, had, hSt⟩ := id C
  intro H locs ls hl hP hS
  unfold fX11_lays_s209 at hf
  refine lv_iload_n hx hb dX11_lays_209 rfl (lv_at hl 1 rfl) ?_
  refine lv_sipush (v := 320) hx hb dX11_lays_210 (by decide) ?_
  refine lv_icmp_ge (tgt := 246) hx hb dX11_lays_213 (by decide) (fun q => ?_) (fun q => ?_)
  · exact wX11_lays_s246 C n st res (it hf q) H locs ls (lv_sub hl [] rfl) hP hS
  · exact wX11_lays_s216 C n K209 v1 st res hK209 (ie hf q) H locs ls (lv_sub hl [0, 1] rfl) hP hS
def fX11_lays_L209 (n : Nat)   : Nat → Int32 → St → Option (Unit × St)
  | 0, _, _ => none
  | k + 1, v1, st => fX11_lays_s209 n (fX11_lays_L209 n k)  v1 st
theorem wX11_lays_L209 (C : Cx p s m args meth c cX11_lays 2 wsL_law RX11 none D G ad) (n : Nat)    (res : (Unit × St))  : ∀ (k : Nat) (v1 : Int32)  (st : St), fX11_lays_L209 n k v1 st = some res → At p l e (rmK 0) s m args below meth c D G ad (MQV D G ad below args s res) 2 st [(0, .ref (ad 130)), (1, .int v1)] 209 [] := by
  intro k
  induction k with
  | zero => intro v1  st h; exact absurd h (by intro q; cases q)
  | succ k ih => intro v1  st h; exact wX11_lays_s209 C n (fX11_lays_L209 n k)  v1   st res ih h
def fX11_lays_s207 (n : Nat)    (st : St) : Option (Unit × St) := fX11_lays_L209 n n 0 st
set_option maxHeartbeats 4000000 in
set_option maxRecDepth 100000 in
theorem wX11_lays_s207 (C : Cx p s m args meth c cX11_lays 2 wsL_law RX11 none D G ad) (n : Nat)      (st : St) (res : (Unit × St))  (hf : fX11_lays_s207 n    st = some res) : At p l e (rmK 0) s m args below meth c D G ad (MQV D G ad below args s res) 2 st [(0, .ref (ad 130))] 207 [] := by
  obtain ⟨hx, hb, hml, hown, hts, hr, hlk, hK, had, hSt⟩ := id C
  intro H locs ls hl hP hS
  unfold fX11_lays_s207 at hf
  refine lv_iconst (v := 0) hx hb dX11_lays_207 (by decide) ?_
  refine lv_istore_n (lv' := [(1, .int 0), (0, .ref (ad 130))]) hx hb dX11_lays_208 rfl hl (by decide) rfl (fun ls hl => ?_)
  exact wX11_lays_L209 C n res n 0 st hf H locs ls (lv_sub hl [1, 0] rfl) hP hS
def fX11_lays_s201 (n : Nat) (K183 : Int32 → St → Option (Unit × St))  (v1 : Int32) (st : St) : Option (Unit × St) := K183 (v1 + 1) st
set_option maxHeartbeats 4000000 in
set_option maxRecDepth 100000 in
theorem wX11_lays_s201 (C : Cx p s m args meth c cX11_lays 2 wsL_law RX11 none D G ad) (n : Nat) (K183 : Int32 → St → Option (Unit × St))  (v1 : Int32)   (st : St) (res : (Unit × St)) (hK183 : ∀ (v1 : Int32) (st : St), K183 v1 st = some res → At p l e (rmK 0) s m args below meth c D G ad (MQV D G ad below args s res) 2 st [(0, .ref (ad 130)), (1, .int v1)] 183 []) (hf : fX11_lays_s201 n K183  v1 st = some res) : At p l e (rmK 0) s m args below meth c D G ad (MQV D G ad below args s res) 2 st [(0, .ref (ad 130)), (1, .int v1)] 201 [] := by
  obtain ⟨hx, hb, hml, hown, hts, hr, hlk, hK, had, hSt⟩ := id C
  intro H locs ls hl hP hS
  unfold fX11_lays_s201 at hf
  refine lv_iinc (v := v1 + 1) (lv' := [(1, .int (v1 + 1)), (0, .ref (ad 130))]) hx hb dX11_lays_201 hl (k := 1) rfl rfl (by decide) rfl (fun ls hl => ?_)
  refine lv_goto (tgt := 183) hx hb dX11_lays_204 (by decide) ?_
  exact hK183 (v1 + 1)  st hf H locs ls (lv_sub hl [1, 0] rfl) hP hS
def fX11_lays_s189 (n : Nat) (K183 : Int32 → St → Option (Unit × St))  (v1 : Int32) (st : St) : Option (Unit × St) := if inb v1 32 = true then (if inb v1 32 = true then (fX11_lays_s201 n K183 v1 (setJ st 144 v1.toNatClampNeg (st.2 173 v1.toNatClampNeg))) else none) else none
set_option maxHeartbeats 4000000 in
set_option maxRecDepth 100000 in
theorem wX11_lays_s189 (C : Cx p s m args meth c cX11_lays 2 wsL_law RX11 none D G ad) (n : Nat) (K183 : Int32 → St → Option (Unit × St))  (v1 : Int32)   (st : St) (res : (Unit × St)) (hK183 : ∀ (v1 : Int32) (st : St), K183 v1 st = some res → At p l e (rmK 0) s m args below meth c D G ad (MQV D G ad below args s res) 2 st [(0, .ref (ad 130)), (1, .int v1)] 183 []) (hf : fX11_lays_s189 n K183  v1 st = some res) : At p l e (rmK 0) s m args below meth c D G ad (MQV D G ad below args s res) 2 st [(0, .ref (ad 130)), (1, .int v1)] 189 [] := by
  obtain ⟨hx, hb, hml, hown, hts, hr, hlk, hK, had, hSt⟩ := id C
  intro H locs ls hl hP hS
  unfold fX11_lays_s189 at hf
  refine lv_aload_n hx hb dX11_lays_189 rfl (lv_at hl 0 rfl) ?_
  refine g_getR hx hb hts inlX11 hown hK hP 130 ct_130 rfl 19 (by decide) (hts _ wm_7_15) rfl dX11_lays_190 ?_
  refine lv_iload_n hx hb dX11_lays_193 rfl (lv_at hl 1 rfl) ?_
  refine lv_aload_n hx hb dX11_lays_194 rfl (lv_at hl 0 rfl) ?_
  refine g_getR hx hb hts inlX11 hown hK hP 130 ct_130 rfl 71 (by decide) (hts _ wm_9_1) rfl dX11_lays_195 ?_
  refine lv_iload_n hx hb dX11_lays_198 rfl (lv_at hl 1 rfl) ?_
  obtain ⟨g1, hf⟩ := gd hf
  refine g_lald hx hb hK hP 173 ct_173 g1 dX11_lays_199 ?_
  obtain ⟨g2, hf⟩ := gd hf
  refine g_last hx hb hK had hP hS 144 ct_144 g2 dX11_lays_200 (fun H locs hP hS => ?_)
  exact wX11_lays_s201 C n K183 v1 (setJ st 144 v1.toNatClampNeg (st.2 173 v1.toNatClampNeg)) res hK183 hf H locs ls (lv_sub hl [0, 1] rfl) hP hS
def fX11_lays_s183 (n : Nat) (K183 : Int32 → St → Option (Unit × St))  (v1 : Int32) (st : St) : Option (Unit × St) := if 32 ≤ v1 then fX11_lays_s207 n st else fX11_lays_s189 n K183 v1 st
set_option maxHeartbeats 4000000 in
set_option maxRecDepth 100000 in
theorem wX11_lays_s183 (C : Cx p s m args meth c cX11_lays 2 wsL_law RX11 none D G ad) (n : Nat) (K183 : Int32 → St → Option (Unit × St))  (v1 : Int32)   (st : St) (res : (Unit × St)) (hK183 : ∀ (v1 : Int32) (st : St), K183 v1 st = some res → At p l e (rmK 0) s m args below meth c D G ad (MQV D G ad below args s res) 2 st [(0, .ref (ad 130)), (1, .int v1)] 183 []) (hf : fX11_lays_s183 n K183  v1 st = some res) : At p l e (rmK 0) s m args below meth c D G ad (MQV D G ad below args s res) 2 st [(0, .ref (ad 130)), (1, .int v1)] 183 [] := by
  obtain ⟨hx, hb, hml, hown, hts, hr, hlk, hK, had, hSt⟩ := id C
  intro H locs ls hl hP hS
  unfold fX11_lays_s183 at hf
  refine lv_iload_n hx hb dX11_lays_183 rfl (lv_at hl 1 rfl) ?_
  refine lv_bipush (v := 32) hx hb dX11_lays_184 (by decide) ?_
  refine lv_icmp_ge (tgt := 207) hx hb dX11_lays_186 (by decide) (fun q => ?_) (fun q => ?_)
  · exact wX11_lays_s207 C n st res (it hf q) H locs ls (lv_sub hl [0] rfl) hP hS
  · exact wX11_lays_s189 C n K183 v1 st res hK183 (ie hf q) H locs ls (lv_sub hl [0, 1] rfl) hP hS
def fX11_lays_L183 (n : Nat)   : Nat → Int32 → St → Option (Unit × St)
  | 0, _, _ => none
  | k + 1, v1, st => fX11_lays_s183 n (fX11_lays_L183 n k)  v1 st
theorem wX11_lays_L183 (C : Cx p s m args meth c cX11_lays 2 wsL_law RX11 none D G ad) (n : Nat)    (res : (Unit × St))  : ∀ (k : Nat) (v1 : Int32)  (st : St), fX11_lays_L183 n k v1 st = some res → At p l e (rmK 0) s m args below meth c D G ad (MQV D G ad below args s res) 2 st [(0, .ref (ad 130)), (1, .int v1)] 183 [] := by
  intro k
  induction k with
  | zero => intro v1  st h; exact absurd h (by intro q; cases q)
  | succ k ih => intro v1  st h; exact wX11_lays_s183 C n (fX11_lays_L183 n k)  v1   st res ih h
def fX11_lays_s181 (n : Nat)    (st : St) : Option (Unit × St) := fX11_lays_L183 n n 0 st
set_option maxHeartbeats 4000000 in
set_option maxRecDepth 100000 in
theorem wX11_lays_s181 (C : Cx p s m args meth c cX11_lays 2 wsL_law RX11 none D G ad) (n : Nat)      (st : St) (res : (Unit × St))  (hf : fX11_lays_s181 n    st = some res) : At p l e (rmK 0) s m args below meth c D G ad (MQV D G ad below args s res) 2 st [(0, .ref (ad 130))] 181 [] := by
  obtain ⟨hx, hb, hml, hown, hts, hr, hlk, hK, had, hSt⟩ := id C
  intro H locs ls hl hP hS
  unfold fX11_lays_s181 at hf
  refine lv_iconst (v := 0) hx hb dX11_lays_181 (by decide) ?_
  refine lv_istore_n (lv' := [(1, .int 0), (0, .ref (ad 130))]) hx hb dX11_lays_182 rfl hl (by decide) rfl (fun ls hl => ?_)
  exact wX11_lays_L183 C n res n 0 st hf H locs ls (lv_sub hl [1, 0] rfl) hP hS
def fX11_lays_s175 (n : Nat) (K157 : Int32 → St → Option (Unit × St))  (v1 : Int32) (st : St) : Option (Unit × St) := K157 (v1 + 1) st
set_option maxHeartbeats 4000000 in
set_option maxRecDepth 100000 in
theorem wX11_lays_s175 (C : Cx p s m args meth c cX11_lays 2 wsL_law RX11 none D G ad) (n : Nat) (K157 : Int32 → St → Option (Unit × St))  (v1 : Int32)   (st : St) (res : (Unit × St)) (hK157 : ∀ (v1 : Int32) (st : St), K157 v1 st = some res → At p l e (rmK 0) s m args below meth c D G ad (MQV D G ad below args s res) 2 st [(0, .ref (ad 130)), (1, .int v1)] 157 []) (hf : fX11_lays_s175 n K157  v1 st = some res) : At p l e (rmK 0) s m args below meth c D G ad (MQV D G ad below args s res) 2 st [(0, .ref (ad 130)), (1, .int v1)] 175 [] := by
  obtain ⟨hx, hb, hml, hown, hts, hr, hlk, hK, had, hSt⟩ := id C
  intro H locs ls hl hP hS
  unfold fX11_lays_s175 at hf
  refine lv_iinc (v := v1 + 1) (lv' := [(1, .int (v1 + 1)), (0, .ref (ad 130))]) hx hb dX11_lays_175 hl (k := 1) rfl rfl (by decide) rfl (fun ls hl => ?_)
  refine lv_goto (tgt := 157) hx hb dX11_lays_178 (by decide) ?_
  exact hK157 (v1 + 1)  st hf H locs ls (lv_sub hl [1, 0] rfl) hP hS
def fX11_lays_s163 (n : Nat) (K157 : Int32 → St → Option (Unit × St))  (v1 : Int32) (st : St) : Option (Unit × St) := if inb v1 56 = true then (if inb v1 56 = true then (fX11_lays_s175 n K157 v1 (setJ st 143 v1.toNatClampNeg (st.2 172 v1.toNatClampNeg))) else none) else none
set_option maxHeartbeats 4000000 in
set_option maxRecDepth 100000 in
theorem wX11_lays_s163 (C : Cx p s m args meth c cX11_lays 2 wsL_law RX11 none D G ad) (n : Nat) (K157 : Int32 → St → Option (Unit × St))  (v1 : Int32)   (st : St) (res : (Unit × St)) (hK157 : ∀ (v1 : Int32) (st : St), K157 v1 st = some res → At p l e (rmK 0) s m args below meth c D G ad (MQV D G ad below args s res) 2 st [(0, .ref (ad 130)), (1, .int v1)] 157 []) (hf : fX11_lays_s163 n K157  v1 st = some res) : At p l e (rmK 0) s m args below meth c D G ad (MQV D G ad below args s res) 2 st [(0, .ref (ad 130)), (1, .int v1)] 163 [] := by
  obtain ⟨hx, hb, hml, hown, hts, hr, hlk, hK, had, hSt⟩ := id C
  intro H locs ls hl hP hS
  unfold fX11_lays_s163 at hf
  refine lv_aload_n hx hb dX11_lays_163 rfl (lv_at hl 0 rfl) ?_
  refine g_getR hx hb hts inlX11 hown hK hP 130 ct_130 rfl 18 (by decide) (hts _ wm_7_14) rfl dX11_lays_164 ?_
  refine lv_iload_n hx hb dX11_lays_167 rfl (lv_at hl 1 rfl) ?_
  refine lv_aload_n hx hb dX11_lays_168 rfl (lv_at hl 0 rfl) ?_
  refine g_getR hx hb hts inlX11 hown hK hP 130 ct_130 rfl 70 (by decide) (hts _ wm_9_0) rfl dX11_lays_169 ?_
  refine lv_iload_n hx hb dX11_lays_172 rfl (lv_at hl 1 rfl) ?_
  obtain ⟨g1, hf⟩ := gd hf
  refine g_lald hx hb hK hP 172 ct_172 g1 dX11_lays_173 ?_
  obtain ⟨g2, hf⟩ := gd hf
  refine g_last hx hb hK had hP hS 143 ct_143 g2 dX11_lays_174 (fun H locs hP hS => ?_)
  exact wX11_lays_s175 C n K157 v1 (setJ st 143 v1.toNatClampNeg (st.2 172 v1.toNatClampNeg)) res hK157 hf H locs ls (lv_sub hl [0, 1] rfl) hP hS
def fX11_lays_s157 (n : Nat) (K157 : Int32 → St → Option (Unit × St))  (v1 : Int32) (st : St) : Option (Unit × St) := if 56 ≤ v1 then fX11_lays_s181 n st else fX11_lays_s163 n K157 v1 st
set_option maxHeartbeats 4000000 in
set_option maxRecDepth 100000 in
theorem wX11_lays_s157 (C : Cx p s m args meth c cX11_lays 2 wsL_law RX11 none D G ad) (n : Nat) (K157 : Int32 → St → Option (Unit × St))  (v1 : Int32)   (st : St) (res : (Unit × St)) (hK157 : ∀ (v1 : Int32) (st : St), K157 v1 st = some res → At p l e (rmK 0) s m args below meth c D G ad (MQV D G ad below args s res) 2 st [(0, .ref (ad 130)), (1, .int v1)] 157 []) (hf : fX11_lays_s157 n K157  v1 st = some res) : At p l e (rmK 0) s m args below meth c D G ad (MQV D G ad below args s res) 2 st [(0, .ref (ad 130)), (1, .int v1)] 157 [] := by
  obtain ⟨hx, hb, hml, hown, hts, hr, hlk, hK, had, hSt⟩ := id C
  intro H locs ls hl hP hS
  unfold fX11_lays_s157 at hf
  refine lv_iload_n hx hb dX11_lays_157 rfl (lv_at hl 1 rfl) ?_
  refine lv_bipush (v := 56) hx hb dX11_lays_158 (by decide) ?_
  refine lv_icmp_ge (tgt := 181) hx hb dX11_lays_160 (by decide) (fun q => ?_) (fun q => ?_)
  · exact wX11_lays_s181 C n st res (it hf q) H locs ls (lv_sub hl [0] rfl) hP hS
  · exact wX11_lays_s163 C n K157 v1 st res hK157 (ie hf q) H locs ls (lv_sub hl [0, 1] rfl) hP hS
def fX11_lays_L157 (n : Nat)   : Nat → Int32 → St → Option (Unit × St)
  | 0, _, _ => none
  | k + 1, v1, st => fX11_lays_s157 n (fX11_lays_L157 n k)  v1 st
theorem wX11_lays_L157 (C : Cx p s m args meth c cX11_lays 2 wsL_law RX11 none D G ad) (n : Nat)    (res : (Unit × St))  : ∀ (k : Nat) (v1 : Int32)  (st : St), fX11_lays_L157 n k v1 st = some res → At p l e (rmK 0) s m args below meth c D G ad (MQV D G ad below args s res) 2 st [(0, .ref (ad 130)), (1, .int v1)] 157 [] := by
  intro k
  induction k with
  | zero => intro v1  st h; exact absurd h (by intro q; cases q)
  | succ k ih => intro v1  st h; exact wX11_lays_s157 C n (fX11_lays_L157 n k)  v1   st res ih h
def fX11_lays_s155 (n : Nat)    (st : St) : Option (Unit × St) := fX11_lays_L157 n n 0 st
set_option maxHeartbeats 4000000 in
set_option maxRecDepth 100000 in
theorem wX11_lays_s155 (C : Cx p s m args meth c cX11_lays 2 wsL_law RX11 none D G ad) (n : Nat)      (st : St) (res : (Unit × St))  (hf : fX11_lays_s155 n    st = some res) : At p l e (rmK 0) s m args below meth c D G ad (MQV D G ad below args s res) 2 st [(0, .ref (ad 130))] 155 [] := by
  obtain ⟨hx, hb, hml, hown, hts, hr, hlk, hK, had, hSt⟩ := id C
  intro H locs ls hl hP hS
  unfold fX11_lays_s155 at hf
  refine lv_iconst (v := 0) hx hb dX11_lays_155 (by decide) ?_
  refine lv_istore_n (lv' := [(1, .int 0), (0, .ref (ad 130))]) hx hb dX11_lays_156 rfl hl (by decide) rfl (fun ls hl => ?_)
  exact wX11_lays_L157 C n res n 0 st hf H locs ls (lv_sub hl [1, 0] rfl) hP hS
def fX11_lays_s149 (n : Nat) (K131 : Int32 → St → Option (Unit × St))  (v1 : Int32) (st : St) : Option (Unit × St) := K131 (v1 + 1) st
set_option maxHeartbeats 4000000 in
set_option maxRecDepth 100000 in
theorem wX11_lays_s149 (C : Cx p s m args meth c cX11_lays 2 wsL_law RX11 none D G ad) (n : Nat) (K131 : Int32 → St → Option (Unit × St))  (v1 : Int32)   (st : St) (res : (Unit × St)) (hK131 : ∀ (v1 : Int32) (st : St), K131 v1 st = some res → At p l e (rmK 0) s m args below meth c D G ad (MQV D G ad below args s res) 2 st [(0, .ref (ad 130)), (1, .int v1)] 131 []) (hf : fX11_lays_s149 n K131  v1 st = some res) : At p l e (rmK 0) s m args below meth c D G ad (MQV D G ad below args s res) 2 st [(0, .ref (ad 130)), (1, .int v1)] 149 [] := by
  obtain ⟨hx, hb, hml, hown, hts, hr, hlk, hK, had, hSt⟩ := id C
  intro H locs ls hl hP hS
  unfold fX11_lays_s149 at hf
  refine lv_iinc (v := v1 + 1) (lv' := [(1, .int (v1 + 1)), (0, .ref (ad 130))]) hx hb dX11_lays_149 hl (k := 1) rfl rfl (by decide) rfl (fun ls hl => ?_)
  refine lv_goto (tgt := 131) hx hb dX11_lays_152 (by decide) ?_
  exact hK131 (v1 + 1)  st hf H locs ls (lv_sub hl [1, 0] rfl) hP hS
def fX11_lays_s137 (n : Nat) (K131 : Int32 → St → Option (Unit × St))  (v1 : Int32) (st : St) : Option (Unit × St) := if inb v1 64 = true then (if inb v1 64 = true then (fX11_lays_s149 n K131 v1 (setJ st 142 v1.toNatClampNeg (st.2 171 v1.toNatClampNeg))) else none) else none
set_option maxHeartbeats 4000000 in
set_option maxRecDepth 100000 in
theorem wX11_lays_s137 (C : Cx p s m args meth c cX11_lays 2 wsL_law RX11 none D G ad) (n : Nat) (K131 : Int32 → St → Option (Unit × St))  (v1 : Int32)   (st : St) (res : (Unit × St)) (hK131 : ∀ (v1 : Int32) (st : St), K131 v1 st = some res → At p l e (rmK 0) s m args below meth c D G ad (MQV D G ad below args s res) 2 st [(0, .ref (ad 130)), (1, .int v1)] 131 []) (hf : fX11_lays_s137 n K131  v1 st = some res) : At p l e (rmK 0) s m args below meth c D G ad (MQV D G ad below args s res) 2 st [(0, .ref (ad 130)), (1, .int v1)] 137 [] := by
  obtain ⟨hx, hb, hml, hown, hts, hr, hlk, hK, had, hSt⟩ := id C
  intro H locs ls hl hP hS
  unfold fX11_lays_s137 at hf
  refine lv_aload_n hx hb dX11_lays_137 rfl (lv_at hl 0 rfl) ?_
  refine g_getR hx hb hts inlX11 hown hK hP 130 ct_130 rfl 17 (by decide) (hts _ wm_7_13) rfl dX11_lays_138 ?_
  refine lv_iload_n hx hb dX11_lays_141 rfl (lv_at hl 1 rfl) ?_
  refine lv_aload_n hx hb dX11_lays_142 rfl (lv_at hl 0 rfl) ?_
  refine g_getR hx hb hts inlX11 hown hK hP 130 ct_130 rfl 69 (by decide) (hts _ wm_8_23) rfl dX11_lays_143 ?_
  refine lv_iload_n hx hb dX11_lays_146 rfl (lv_at hl 1 rfl) ?_
  obtain ⟨g1, hf⟩ := gd hf
  refine g_lald hx hb hK hP 171 ct_171 g1 dX11_lays_147 ?_
  obtain ⟨g2, hf⟩ := gd hf
  refine g_last hx hb hK had hP hS 142 ct_142 g2 dX11_lays_148 (fun H locs hP hS => ?_)
  exact wX11_lays_s149 C n K131 v1 (setJ st 142 v1.toNatClampNeg (st.2 171 v1.toNatClampNeg)) res hK131 hf H locs ls (lv_sub hl [0, 1] rfl) hP hS
def fX11_lays_s131 (n : Nat) (K131 : Int32 → St → Option (Unit × St))  (v1 : Int32) (st : St) : Option (Unit × St) := if 64 ≤ v1 then fX11_lays_s155 n st else fX11_lays_s137 n K131 v1 st
set_option maxHeartbeats 4000000 in
set_option maxRecDepth 100000 in
theorem wX11_lays_s131 (C : Cx p s m args meth c cX11_lays 2 wsL_law RX11 none D G ad) (n : Nat) (K131 : Int32 → St → Option (Unit × St))  (v1 : Int32)   (st : St) (res : (Unit × St)) (hK131 : ∀ (v1 : Int32) (st : St), K131 v1 st = some res → At p l e (rmK 0) s m args below meth c D G ad (MQV D G ad below args s res) 2 st [(0, .ref (ad 130)), (1, .int v1)] 131 []) (hf : fX11_lays_s131 n K131  v1 st = some res) : At p l e (rmK 0) s m args below meth c D G ad (MQV D G ad below args s res) 2 st [(0, .ref (ad 130)), (1, .int v1)] 131 [] := by
  obtain ⟨hx, hb, hml, hown, hts, hr, hlk, hK, had, hSt⟩ := id C
  intro H locs ls hl hP hS
  unfold fX11_lays_s131 at hf
  refine lv_iload_n hx hb dX11_lays_131 rfl (lv_at hl 1 rfl) ?_
  refine lv_bipush (v := 64) hx hb dX11_lays_132 (by decide) ?_
  refine lv_icmp_ge (tgt := 155) hx hb dX11_lays_134 (by decide) (fun q => ?_) (fun q => ?_)
  · exact wX11_lays_s155 C n st res (it hf q) H locs ls (lv_sub hl [0] rfl) hP hS
  · exact wX11_lays_s137 C n K131 v1 st res hK131 (ie hf q) H locs ls (lv_sub hl [0, 1] rfl) hP hS
def fX11_lays_L131 (n : Nat)   : Nat → Int32 → St → Option (Unit × St)
  | 0, _, _ => none
  | k + 1, v1, st => fX11_lays_s131 n (fX11_lays_L131 n k)  v1 st
theorem wX11_lays_L131 (C : Cx p s m args meth c cX11_lays 2 wsL_law RX11 none D G ad) (n : Nat)    (res : (Unit × St))  : ∀ (k : Nat) (v1 : Int32)  (st : St), fX11_lays_L131 n k v1 st = some res → At p l e (rmK 0) s m args below meth c D G ad (MQV D G ad below args s res) 2 st [(0, .ref (ad 130)), (1, .int v1)] 131 [] := by
  intro k
  induction k with
  | zero => intro v1  st h; exact absurd h (by intro q; cases q)
  | succ k ih => intro v1  st h; exact wX11_lays_s131 C n (fX11_lays_L131 n k)  v1   st res ih h
def fX11_lays_s129 (n : Nat)    (st : St) : Option (Unit × St) := fX11_lays_L131 n n 0 st
set_option maxHeartbeats 4000000 in
set_option maxRecDepth 100000 in
theorem wX11_lays_s129 (C : Cx p s m args meth c cX11_lays 2 wsL_law RX11 none D G ad) (n : Nat)      (st : St) (res : (Unit × St))  (hf : fX11_lays_s129 n    st = some res) : At p l e (rmK 0) s m args below meth c D G ad (MQV D G ad below args s res) 2 st [(0, .ref (ad 130))] 129 [] := by
  obtain ⟨hx, hb, hml, hown, hts, hr, hlk, hK, had, hSt⟩ := id C
  intro H locs ls hl hP hS
  unfold fX11_lays_s129 at hf
  refine lv_iconst (v := 0) hx hb dX11_lays_129 (by decide) ?_
  refine lv_istore_n (lv' := [(1, .int 0), (0, .ref (ad 130))]) hx hb dX11_lays_130 rfl hl (by decide) rfl (fun ls hl => ?_)
  exact wX11_lays_L131 C n res n 0 st hf H locs ls (lv_sub hl [1, 0] rfl) hP hS
def fX11_lays_s123 (n : Nat) (K33 : Int32 → St → Option (Unit × St))  (v1 : Int32) (st : St) : Option (Unit × St) := K33 (v1 + 1) st
set_option maxHeartbeats 4000000 in
set_option maxRecDepth 100000 in
theorem wX11_lays_s123 (C : Cx p s m args meth c cX11_lays 2 wsL_law RX11 none D G ad) (n : Nat) (K33 : Int32 → St → Option (Unit × St))  (v1 : Int32)   (st : St) (res : (Unit × St)) (hK33 : ∀ (v1 : Int32) (st : St), K33 v1 st = some res → At p l e (rmK 0) s m args below meth c D G ad (MQV D G ad below args s res) 2 st [(0, .ref (ad 130)), (1, .int v1)] 33 []) (hf : fX11_lays_s123 n K33  v1 st = some res) : At p l e (rmK 0) s m args below meth c D G ad (MQV D G ad below args s res) 2 st [(0, .ref (ad 130)), (1, .int v1)] 123 [] := by
  obtain ⟨hx, hb, hml, hown, hts, hr, hlk, hK, had, hSt⟩ := id C
  intro H locs ls hl hP hS
  unfold fX11_lays_s123 at hf
  refine lv_iinc (v := v1 + 1) (lv' := [(1, .int (v1 + 1)), (0, .ref (ad 130))]) hx hb dX11_lays_123 hl (k := 1) rfl rfl (by decide) rfl (fun ls hl => ?_)
  refine lv_goto (tgt := 33) hx hb dX11_lays_126 (by decide) ?_
  exact hK33 (v1 + 1)  st hf H locs ls (lv_sub hl [1, 0] rfl) hP hS
def fX11_lays_s108 (n : Nat) (K33 : Int32 → St → Option (Unit × St))  (v1 : Int32) (st : St) : Option (Unit × St) := if inb (32 + v1) 40 = true then (if inb v1 8 = true then (fX11_lays_s123 n K33 v1 (setJ st 148 v1.toNatClampNeg (st.2 170 (32 + v1).toNatClampNeg))) else none) else none
set_option maxHeartbeats 4000000 in
set_option maxRecDepth 100000 in
theorem wX11_lays_s108 (C : Cx p s m args meth c cX11_lays 2 wsL_law RX11 none D G ad) (n : Nat) (K33 : Int32 → St → Option (Unit × St))  (v1 : Int32)   (st : St) (res : (Unit × St)) (hK33 : ∀ (v1 : Int32) (st : St), K33 v1 st = some res → At p l e (rmK 0) s m args below meth c D G ad (MQV D G ad below args s res) 2 st [(0, .ref (ad 130)), (1, .int v1)] 33 []) (hf : fX11_lays_s108 n K33  v1 st = some res) : At p l e (rmK 0) s m args below meth c D G ad (MQV D G ad below args s res) 2 st [(0, .ref (ad 130)), (1, .int v1)] 108 [] := by
  obtain ⟨hx, hb, hml, hown, hts, hr, hlk, hK, had, hSt⟩ := id C
  intro H locs ls hl hP hS
  unfold fX11_lays_s108 at hf
  refine lv_aload_n hx hb dX11_lays_108 rfl (lv_at hl 0 rfl) ?_
  refine g_getR hx hb hts inlX11 hown hK hP 130 ct_130 rfl 23 (by decide) (hts _ wm_7_19) rfl dX11_lays_109 ?_
  refine lv_iload_n hx hb dX11_lays_112 rfl (lv_at hl 1 rfl) ?_
  refine lv_aload_n hx hb dX11_lays_113 rfl (lv_at hl 0 rfl) ?_
  refine g_getR hx hb hts inlX11 hown hK hP 130 ct_130 rfl 68 (by decide) (hts _ wm_8_22) rfl dX11_lays_114 ?_
  refine lv_bipush (v := 32) hx hb dX11_lays_117 (by decide) ?_
  refine lv_iload_n hx hb dX11_lays_119 rfl (lv_at hl 1 rfl) ?_
  refine lv_iadd hx hb dX11_lays_120 ?_
  obtain ⟨g1, hf⟩ := gd hf
  refine g_lald hx hb hK hP 170 ct_170 g1 dX11_lays_121 ?_
  obtain ⟨g2, hf⟩ := gd hf
  refine g_last hx hb hK had hP hS 148 ct_148 g2 dX11_lays_122 (fun H locs hP hS => ?_)
  exact wX11_lays_s123 C n K33 v1 (setJ st 148 v1.toNatClampNeg (st.2 170 (32 + v1).toNatClampNeg)) res hK33 hf H locs ls (lv_sub hl [0, 1] rfl) hP hS
def fX11_lays_s93 (n : Nat) (K33 : Int32 → St → Option (Unit × St))  (v1 : Int32) (st : St) : Option (Unit × St) := if inb (24 + v1) 40 = true then (if inb v1 8 = true then (fX11_lays_s108 n K33 v1 (setJ st 147 v1.toNatClampNeg (st.2 170 (24 + v1).toNatClampNeg))) else none) else none
set_option maxHeartbeats 4000000 in
set_option maxRecDepth 100000 in
theorem wX11_lays_s93 (C : Cx p s m args meth c cX11_lays 2 wsL_law RX11 none D G ad) (n : Nat) (K33 : Int32 → St → Option (Unit × St))  (v1 : Int32)   (st : St) (res : (Unit × St)) (hK33 : ∀ (v1 : Int32) (st : St), K33 v1 st = some res → At p l e (rmK 0) s m args below meth c D G ad (MQV D G ad below args s res) 2 st [(0, .ref (ad 130)), (1, .int v1)] 33 []) (hf : fX11_lays_s93 n K33  v1 st = some res) : At p l e (rmK 0) s m args below meth c D G ad (MQV D G ad below args s res) 2 st [(0, .ref (ad 130)), (1, .int v1)] 93 [] := by
  obtain ⟨hx, hb, hml, hown, hts, hr, hlk, hK, had, hSt⟩ := id C
  intro H locs ls hl hP hS
  unfold fX11_lays_s93 at hf
  refine lv_aload_n hx hb dX11_lays_93 rfl (lv_at hl 0 rfl) ?_
  refine g_getR hx hb hts inlX11 hown hK hP 130 ct_130 rfl 22 (by decide) (hts _ wm_7_18) rfl dX11_lays_94 ?_
  refine lv_iload_n hx hb dX11_lays_97 rfl (lv_at hl 1 rfl) ?_
  refine lv_aload_n hx hb dX11_lays_98 rfl (lv_at hl 0 rfl) ?_
  refine g_getR hx hb hts inlX11 hown hK hP 130 ct_130 rfl 68 (by decide) (hts _ wm_8_22) rfl dX11_lays_99 ?_
  refine lv_bipush (v := 24) hx hb dX11_lays_102 (by decide) ?_
  refine lv_iload_n hx hb dX11_lays_104 rfl (lv_at hl 1 rfl) ?_
  refine lv_iadd hx hb dX11_lays_105 ?_
  obtain ⟨g1, hf⟩ := gd hf
  refine g_lald hx hb hK hP 170 ct_170 g1 dX11_lays_106 ?_
  obtain ⟨g2, hf⟩ := gd hf
  refine g_last hx hb hK had hP hS 147 ct_147 g2 dX11_lays_107 (fun H locs hP hS => ?_)
  exact wX11_lays_s108 C n K33 v1 (setJ st 147 v1.toNatClampNeg (st.2 170 (24 + v1).toNatClampNeg)) res hK33 hf H locs ls (lv_sub hl [0, 1] rfl) hP hS
def fX11_lays_s78 (n : Nat) (K33 : Int32 → St → Option (Unit × St))  (v1 : Int32) (st : St) : Option (Unit × St) := if inb (16 + v1) 40 = true then (if inb v1 8 = true then (fX11_lays_s93 n K33 v1 (setJ st 146 v1.toNatClampNeg (st.2 170 (16 + v1).toNatClampNeg))) else none) else none
set_option maxHeartbeats 4000000 in
set_option maxRecDepth 100000 in
theorem wX11_lays_s78 (C : Cx p s m args meth c cX11_lays 2 wsL_law RX11 none D G ad) (n : Nat) (K33 : Int32 → St → Option (Unit × St))  (v1 : Int32)   (st : St) (res : (Unit × St)) (hK33 : ∀ (v1 : Int32) (st : St), K33 v1 st = some res → At p l e (rmK 0) s m args below meth c D G ad (MQV D G ad below args s res) 2 st [(0, .ref (ad 130)), (1, .int v1)] 33 []) (hf : fX11_lays_s78 n K33  v1 st = some res) : At p l e (rmK 0) s m args below meth c D G ad (MQV D G ad below args s res) 2 st [(0, .ref (ad 130)), (1, .int v1)] 78 [] := by
  obtain ⟨hx, hb, hml, hown, hts, hr, hlk, hK, had, hSt⟩ := id C
  intro H locs ls hl hP hS
  unfold fX11_lays_s78 at hf
  refine lv_aload_n hx hb dX11_lays_78 rfl (lv_at hl 0 rfl) ?_
  refine g_getR hx hb hts inlX11 hown hK hP 130 ct_130 rfl 21 (by decide) (hts _ wm_7_17) rfl dX11_lays_79 ?_
  refine lv_iload_n hx hb dX11_lays_82 rfl (lv_at hl 1 rfl) ?_
  refine lv_aload_n hx hb dX11_lays_83 rfl (lv_at hl 0 rfl) ?_
  refine g_getR hx hb hts inlX11 hown hK hP 130 ct_130 rfl 68 (by decide) (hts _ wm_8_22) rfl dX11_lays_84 ?_
  refine lv_bipush (v := 16) hx hb dX11_lays_87 (by decide) ?_
  refine lv_iload_n hx hb dX11_lays_89 rfl (lv_at hl 1 rfl) ?_
  refine lv_iadd hx hb dX11_lays_90 ?_
  obtain ⟨g1, hf⟩ := gd hf
  refine g_lald hx hb hK hP 170 ct_170 g1 dX11_lays_91 ?_
  obtain ⟨g2, hf⟩ := gd hf
  refine g_last hx hb hK had hP hS 146 ct_146 g2 dX11_lays_92 (fun H locs hP hS => ?_)
  exact wX11_lays_s93 C n K33 v1 (setJ st 146 v1.toNatClampNeg (st.2 170 (16 + v1).toNatClampNeg)) res hK33 hf H locs ls (lv_sub hl [0, 1] rfl) hP hS
def fX11_lays_s63 (n : Nat) (K33 : Int32 → St → Option (Unit × St))  (v1 : Int32) (st : St) : Option (Unit × St) := if inb (8 + v1) 40 = true then (if inb v1 8 = true then (fX11_lays_s78 n K33 v1 (setJ st 145 v1.toNatClampNeg (st.2 170 (8 + v1).toNatClampNeg))) else none) else none
set_option maxHeartbeats 4000000 in
set_option maxRecDepth 100000 in
theorem wX11_lays_s63 (C : Cx p s m args meth c cX11_lays 2 wsL_law RX11 none D G ad) (n : Nat) (K33 : Int32 → St → Option (Unit × St))  (v1 : Int32)   (st : St) (res : (Unit × St)) (hK33 : ∀ (v1 : Int32) (st : St), K33 v1 st = some res → At p l e (rmK 0) s m args below meth c D G ad (MQV D G ad below args s res) 2 st [(0, .ref (ad 130)), (1, .int v1)] 33 []) (hf : fX11_lays_s63 n K33  v1 st = some res) : At p l e (rmK 0) s m args below meth c D G ad (MQV D G ad below args s res) 2 st [(0, .ref (ad 130)), (1, .int v1)] 63 [] := by
  obtain ⟨hx, hb, hml, hown, hts, hr, hlk, hK, had, hSt⟩ := id C
  intro H locs ls hl hP hS
  unfold fX11_lays_s63 at hf
  refine lv_aload_n hx hb dX11_lays_63 rfl (lv_at hl 0 rfl) ?_
  refine g_getR hx hb hts inlX11 hown hK hP 130 ct_130 rfl 20 (by decide) (hts _ wm_7_16) rfl dX11_lays_64 ?_
  refine lv_iload_n hx hb dX11_lays_67 rfl (lv_at hl 1 rfl) ?_
  refine lv_aload_n hx hb dX11_lays_68 rfl (lv_at hl 0 rfl) ?_
  refine g_getR hx hb hts inlX11 hown hK hP 130 ct_130 rfl 68 (by decide) (hts _ wm_8_22) rfl dX11_lays_69 ?_
  refine lv_bipush (v := 8) hx hb dX11_lays_72 (by decide) ?_
  refine lv_iload_n hx hb dX11_lays_74 rfl (lv_at hl 1 rfl) ?_
  refine lv_iadd hx hb dX11_lays_75 ?_
  obtain ⟨g1, hf⟩ := gd hf
  refine g_lald hx hb hK hP 170 ct_170 g1 dX11_lays_76 ?_
  obtain ⟨g2, hf⟩ := gd hf
  refine g_last hx hb hK had hP hS 145 ct_145 g2 dX11_lays_77 (fun H locs hP hS => ?_)
  exact wX11_lays_s78 C n K33 v1 (setJ st 145 v1.toNatClampNeg (st.2 170 (8 + v1).toNatClampNeg)) res hK33 hf H locs ls (lv_sub hl [0, 1] rfl) hP hS
def fX11_lays_s51 (n : Nat) (K33 : Int32 → St → Option (Unit × St))  (v1 : Int32) (st : St) : Option (Unit × St) := if inb v1 40 = true then (if inb v1 8 = true then (fX11_lays_s63 n K33 v1 (setJ st 141 v1.toNatClampNeg (st.2 170 v1.toNatClampNeg))) else none) else none
set_option maxHeartbeats 4000000 in
set_option maxRecDepth 100000 in
theorem wX11_lays_s51 (C : Cx p s m args meth c cX11_lays 2 wsL_law RX11 none D G ad) (n : Nat) (K33 : Int32 → St → Option (Unit × St))  (v1 : Int32)   (st : St) (res : (Unit × St)) (hK33 : ∀ (v1 : Int32) (st : St), K33 v1 st = some res → At p l e (rmK 0) s m args below meth c D G ad (MQV D G ad below args s res) 2 st [(0, .ref (ad 130)), (1, .int v1)] 33 []) (hf : fX11_lays_s51 n K33  v1 st = some res) : At p l e (rmK 0) s m args below meth c D G ad (MQV D G ad below args s res) 2 st [(0, .ref (ad 130)), (1, .int v1)] 51 [] := by
  obtain ⟨hx, hb, hml, hown, hts, hr, hlk, hK, had, hSt⟩ := id C
  intro H locs ls hl hP hS
  unfold fX11_lays_s51 at hf
  refine lv_aload_n hx hb dX11_lays_51 rfl (lv_at hl 0 rfl) ?_
  refine g_getR hx hb hts inlX11 hown hK hP 130 ct_130 rfl 16 (by decide) (hts _ wm_7_12) rfl dX11_lays_52 ?_
  refine lv_iload_n hx hb dX11_lays_55 rfl (lv_at hl 1 rfl) ?_
  refine lv_aload_n hx hb dX11_lays_56 rfl (lv_at hl 0 rfl) ?_
  refine g_getR hx hb hts inlX11 hown hK hP 130 ct_130 rfl 68 (by decide) (hts _ wm_8_22) rfl dX11_lays_57 ?_
  refine lv_iload_n hx hb dX11_lays_60 rfl (lv_at hl 1 rfl) ?_
  obtain ⟨g1, hf⟩ := gd hf
  refine g_lald hx hb hK hP 170 ct_170 g1 dX11_lays_61 ?_
  obtain ⟨g2, hf⟩ := gd hf
  refine g_last hx hb hK had hP hS 141 ct_141 g2 dX11_lays_62 (fun H locs hP hS => ?_)
  exact wX11_lays_s63 C n K33 v1 (setJ st 141 v1.toNatClampNeg (st.2 170 v1.toNatClampNeg)) res hK33 hf H locs ls (lv_sub hl [0, 1] rfl) hP hS
def fX11_lays_s39 (n : Nat) (K33 : Int32 → St → Option (Unit × St))  (v1 : Int32) (st : St) : Option (Unit × St) := if inb v1 8 = true then (if inb v1 8 = true then (fX11_lays_s51 n K33 v1 (setI st 140 v1.toNatClampNeg (st.1 169 v1.toNatClampNeg))) else none) else none
set_option maxHeartbeats 4000000 in
set_option maxRecDepth 100000 in
theorem wX11_lays_s39 (C : Cx p s m args meth c cX11_lays 2 wsL_law RX11 none D G ad) (n : Nat) (K33 : Int32 → St → Option (Unit × St))  (v1 : Int32)   (st : St) (res : (Unit × St)) (hK33 : ∀ (v1 : Int32) (st : St), K33 v1 st = some res → At p l e (rmK 0) s m args below meth c D G ad (MQV D G ad below args s res) 2 st [(0, .ref (ad 130)), (1, .int v1)] 33 []) (hf : fX11_lays_s39 n K33  v1 st = some res) : At p l e (rmK 0) s m args below meth c D G ad (MQV D G ad below args s res) 2 st [(0, .ref (ad 130)), (1, .int v1)] 39 [] := by
  obtain ⟨hx, hb, hml, hown, hts, hr, hlk, hK, had, hSt⟩ := id C
  intro H locs ls hl hP hS
  unfold fX11_lays_s39 at hf
  refine lv_aload_n hx hb dX11_lays_39 rfl (lv_at hl 0 rfl) ?_
  refine g_getR hx hb hts inlX11 hown hK hP 130 ct_130 rfl 15 (by decide) (hts _ wm_7_11) rfl dX11_lays_40 ?_
  refine lv_iload_n hx hb dX11_lays_43 rfl (lv_at hl 1 rfl) ?_
  refine lv_aload_n hx hb dX11_lays_44 rfl (lv_at hl 0 rfl) ?_
  refine g_getR hx hb hts inlX11 hown hK hP 130 ct_130 rfl 67 (by decide) (hts _ wm_8_21) rfl dX11_lays_45 ?_
  refine lv_iload_n hx hb dX11_lays_48 rfl (lv_at hl 1 rfl) ?_
  obtain ⟨g1, hf⟩ := gd hf
  refine g_iald hx hb hK hP 169 ct_169 g1 dX11_lays_49 ?_
  obtain ⟨g2, hf⟩ := gd hf
  refine g_iast hx hb hK had hP hS 140 ct_140 g2 dX11_lays_50 (fun H locs hP hS => ?_)
  exact wX11_lays_s51 C n K33 v1 (setI st 140 v1.toNatClampNeg (st.1 169 v1.toNatClampNeg)) res hK33 hf H locs ls (lv_sub hl [0, 1] rfl) hP hS
def fX11_lays_s33 (n : Nat) (K33 : Int32 → St → Option (Unit × St))  (v1 : Int32) (st : St) : Option (Unit × St) := if 8 ≤ v1 then fX11_lays_s129 n st else fX11_lays_s39 n K33 v1 st
set_option maxHeartbeats 4000000 in
set_option maxRecDepth 100000 in
theorem wX11_lays_s33 (C : Cx p s m args meth c cX11_lays 2 wsL_law RX11 none D G ad) (n : Nat) (K33 : Int32 → St → Option (Unit × St))  (v1 : Int32)   (st : St) (res : (Unit × St)) (hK33 : ∀ (v1 : Int32) (st : St), K33 v1 st = some res → At p l e (rmK 0) s m args below meth c D G ad (MQV D G ad below args s res) 2 st [(0, .ref (ad 130)), (1, .int v1)] 33 []) (hf : fX11_lays_s33 n K33  v1 st = some res) : At p l e (rmK 0) s m args below meth c D G ad (MQV D G ad below args s res) 2 st [(0, .ref (ad 130)), (1, .int v1)] 33 [] := by
  obtain ⟨hx, hb, hml, hown, hts, hr, hlk, hK, had, hSt⟩ := id C
  intro H locs ls hl hP hS
  unfold fX11_lays_s33 at hf
  refine lv_iload_n hx hb dX11_lays_33 rfl (lv_at hl 1 rfl) ?_
  refine lv_bipush (v := 8) hx hb dX11_lays_34 (by decide) ?_
  refine lv_icmp_ge (tgt := 129) hx hb dX11_lays_36 (by decide) (fun q => ?_) (fun q => ?_)
  · exact wX11_lays_s129 C n st res (it hf q) H locs ls (lv_sub hl [0] rfl) hP hS
  · exact wX11_lays_s39 C n K33 v1 st res hK33 (ie hf q) H locs ls (lv_sub hl [0, 1] rfl) hP hS
def fX11_lays_L33 (n : Nat)   : Nat → Int32 → St → Option (Unit × St)
  | 0, _, _ => none
  | k + 1, v1, st => fX11_lays_s33 n (fX11_lays_L33 n k)  v1 st
theorem wX11_lays_L33 (C : Cx p s m args meth c cX11_lays 2 wsL_law RX11 none D G ad) (n : Nat)    (res : (Unit × St))  : ∀ (k : Nat) (v1 : Int32)  (st : St), fX11_lays_L33 n k v1 st = some res → At p l e (rmK 0) s m args below meth c D G ad (MQV D G ad below args s res) 2 st [(0, .ref (ad 130)), (1, .int v1)] 33 [] := by
  intro k
  induction k with
  | zero => intro v1  st h; exact absurd h (by intro q; cases q)
  | succ k ih => intro v1  st h; exact wX11_lays_s33 C n (fX11_lays_L33 n k)  v1   st res ih h
def fX11_lays_s31 (n : Nat)    (st : St) : Option (Unit × St) := fX11_lays_L33 n n 0 st
set_option maxHeartbeats 4000000 in
set_option maxRecDepth 100000 in
theorem wX11_lays_s31 (C : Cx p s m args meth c cX11_lays 2 wsL_law RX11 none D G ad) (n : Nat)      (st : St) (res : (Unit × St))  (hf : fX11_lays_s31 n    st = some res) : At p l e (rmK 0) s m args below meth c D G ad (MQV D G ad below args s res) 2 st [(0, .ref (ad 130))] 31 [] := by
  obtain ⟨hx, hb, hml, hown, hts, hr, hlk, hK, had, hSt⟩ := id C
  intro H locs ls hl hP hS
  unfold fX11_lays_s31 at hf
  refine lv_iconst (v := 0) hx hb dX11_lays_31 (by decide) ?_
  refine lv_istore_n (lv' := [(1, .int 0), (0, .ref (ad 130))]) hx hb dX11_lays_32 rfl hl (by decide) rfl (fun ls hl => ?_)
  exact wX11_lays_L33 C n res n 0 st hf H locs ls (lv_sub hl [1, 0] rfl) hP hS
def fX11_lays_s21 (n : Nat)    (st : St) : Option (Unit × St) := if inb 2 3 = true then (fX11_lays_s31 n (setJ st 130 14 (st.2 168 (2 : Int32).toNatClampNeg))) else none
set_option maxHeartbeats 4000000 in
set_option maxRecDepth 100000 in
theorem wX11_lays_s21 (C : Cx p s m args meth c cX11_lays 2 wsL_law RX11 none D G ad) (n : Nat)      (st : St) (res : (Unit × St))  (hf : fX11_lays_s21 n    st = some res) : At p l e (rmK 0) s m args below meth c D G ad (MQV D G ad below args s res) 2 st [(0, .ref (ad 130))] 21 [] := by
  obtain ⟨hx, hb, hml, hown, hts, hr, hlk, hK, had, hSt⟩ := id C
  intro H locs ls hl hP hS
  unfold fX11_lays_s21 at hf
  refine lv_aload_n hx hb dX11_lays_21 rfl (lv_at hl 0 rfl) ?_
  refine lv_aload_n hx hb dX11_lays_22 rfl (lv_at hl 0 rfl) ?_
  refine g_getR hx hb hts inlX11 hown hK hP 130 ct_130 rfl 66 (by decide) (hts _ wm_8_20) rfl dX11_lays_23 ?_
  refine lv_iconst (v := 2) hx hb dX11_lays_26 (by decide) ?_
  obtain ⟨g1, hf⟩ := gd hf
  refine g_lald hx hb hK hP 168 ct_168 g1 dX11_lays_27 ?_
  refine g_putJ hx hb hts inlX11 tyX11_ok nmX11 hown hK had hP hS 130 ct_130 rfl 14 (by decide) (hts _ wm_16_15) rfl rfl rfl dX11_lays_28 (fun H locs hP hS => ?_)
  exact wX11_lays_s31 C n (setJ st 130 14 (st.2 168 (2 : Int32).toNatClampNeg)) res hf H locs ls (lv_sub hl [0] rfl) hP hS
def fX11_lays_s11 (n : Nat)    (st : St) : Option (Unit × St) := if inb 1 3 = true then (fX11_lays_s21 n (setJ st 130 13 (st.2 168 (1 : Int32).toNatClampNeg))) else none
set_option maxHeartbeats 4000000 in
set_option maxRecDepth 100000 in
theorem wX11_lays_s11 (C : Cx p s m args meth c cX11_lays 2 wsL_law RX11 none D G ad) (n : Nat)      (st : St) (res : (Unit × St))  (hf : fX11_lays_s11 n    st = some res) : At p l e (rmK 0) s m args below meth c D G ad (MQV D G ad below args s res) 2 st [(0, .ref (ad 130))] 11 [] := by
  obtain ⟨hx, hb, hml, hown, hts, hr, hlk, hK, had, hSt⟩ := id C
  intro H locs ls hl hP hS
  unfold fX11_lays_s11 at hf
  refine lv_aload_n hx hb dX11_lays_11 rfl (lv_at hl 0 rfl) ?_
  refine lv_aload_n hx hb dX11_lays_12 rfl (lv_at hl 0 rfl) ?_
  refine g_getR hx hb hts inlX11 hown hK hP 130 ct_130 rfl 66 (by decide) (hts _ wm_8_20) rfl dX11_lays_13 ?_
  refine lv_iconst (v := 1) hx hb dX11_lays_16 (by decide) ?_
  obtain ⟨g1, hf⟩ := gd hf
  refine g_lald hx hb hK hP 168 ct_168 g1 dX11_lays_17 ?_
  refine g_putJ hx hb hts inlX11 tyX11_ok nmX11 hown hK had hP hS 130 ct_130 rfl 13 (by decide) (hts _ wm_16_14) rfl rfl rfl dX11_lays_18 (fun H locs hP hS => ?_)
  exact wX11_lays_s21 C n (setJ st 130 13 (st.2 168 (1 : Int32).toNatClampNeg)) res hf H locs ls (lv_sub hl [0] rfl) hP hS
def fX11_lays_s0 (n : Nat)    (st : St) : Option (Unit × St) := if inb 0 3 = true then (fX11_lays_s11 n (setI st 130 12 ((st.2 168 (0 : Int32).toNatClampNeg).toInt32))) else none
set_option maxHeartbeats 4000000 in
set_option maxRecDepth 100000 in
theorem wX11_lays_s0 (C : Cx p s m args meth c cX11_lays 2 wsL_law RX11 none D G ad) (n : Nat)      (st : St) (res : (Unit × St))  (hf : fX11_lays_s0 n    st = some res) : At p l e (rmK 0) s m args below meth c D G ad (MQV D G ad below args s res) 2 st [(0, .ref (ad 130))] 0 [] := by
  obtain ⟨hx, hb, hml, hown, hts, hr, hlk, hK, had, hSt⟩ := id C
  intro H locs ls hl hP hS
  unfold fX11_lays_s0 at hf
  refine lv_aload_n hx hb dX11_lays_0 rfl (lv_at hl 0 rfl) ?_
  refine lv_aload_n hx hb dX11_lays_1 rfl (lv_at hl 0 rfl) ?_
  refine g_getR hx hb hts inlX11 hown hK hP 130 ct_130 rfl 66 (by decide) (hts _ wm_8_20) rfl dX11_lays_2 ?_
  refine lv_iconst (v := 0) hx hb dX11_lays_5 (by decide) ?_
  obtain ⟨g1, hf⟩ := gd hf
  refine g_lald hx hb hK hP 168 ct_168 g1 dX11_lays_6 ?_
  refine lv_l2i hx hb dX11_lays_7 rfl ?_
  refine g_putI hx hb hts inlX11 tyX11_ok nmX11 hown hK had hP hS 130 ct_130 rfl 12 (by decide) (hts _ wm_10_15) rfl rfl rfl rfl rfl dX11_lays_8 (fun H locs hP hS => ?_)
  exact wX11_lays_s11 C n (setI st 130 12 ((st.2 168 (0 : Int32).toNatClampNeg).toInt32)) res hf H locs ls (lv_sub hl [0] rfl) hP hS
def fX11_lays (n : Nat)   (st : St) : Option (Unit × St) := fX11_lays_s0 n st
theorem okX11_lays : okY yX11_lays RX11 0 := by unfold okY; decide +kernel
end
set_option maxRecDepth 100000 in
theorem kX11_lays (l : Launch) (D : va_G) (G : G3) (ad : Nat → Nat) (had : Adr ad) (n : Nat)    (st : St) (res : (Unit × St)) (hf : fX11_lays n   st = some res) {sz : Nat} : CtV l yX11_lays (wsU yX11_lays cX11_lays 2 none) (rmK 0) D G ad sz [.ref (ad 130)] st res := by
  refine Met.ofW (cc := cX11_lays) (maxL := 2) (ret := none) (by decide) rfl ?_
  intro p e s m args below meth c s₁ B hml hv
  obtain ⟨rfl, hsz, hP, hK, hSt⟩ := hv
  have hts := atoms_spec (ws := wsU yX11_lays cX11_lays 2 none) B.pre
  have C : Cx p s m _ meth c cX11_lays 2 wsL_law RX11 none D G ad := ⟨B.exec, B.bytes, hml, findClass_of_methodNamed B.named, fun w h => hts w (List.mem_cons_of_mem _ h), B.returns, B.notSynchronized, hK, had, hSt⟩
  subst hsz
  have hl := lv_entry ([.ref (ad 130)]) (n := 2) (Nat.le_of_ble_eq_true rfl)
  rw [lg_entry_eq]
  generalize (lg_sl ([.ref (ad 130)]) ++ List.replicate (2 - (lg_sl ([.ref (ad 130)])).length) Slot.unset).toArray = ls at hl ⊢
  exact wX11_lays_s0 C n     st res hf s.heap [] ls (lv_sub hl [0] rfl) hP va_S.rf
section
variable {p : Program} {l : Launch} {e : Env} {s : State} {m : MethodId} {args : Array Value} {below : List Frame} {meth : Method} {c : Code} {D : va_G} {G : G3} {ad : Nat → Nat}
def fX11_tries_s123 (n : Nat)   (v9 : Int64) (st : St) : Option (Int64 × St) := some (v9, st)
set_option maxHeartbeats 4000000 in
set_option maxRecDepth 100000 in
theorem wX11_tries_s123 (C : Cx p s m args meth c cX11_tries 12 wsL_law RX11 (some .long) D G ad) (n : Nat)   (v9 : Int64)   (st : St) (res : (Int64 × St))  (hf : fX11_tries_s123 n   v9 st = some res) : At p l e (rmK 6) s m args below meth c D G ad (MQJ D G ad below args s res) 12 st [(9, .long v9)] 123 [] := by
  obtain ⟨hx, hb, hml, hown, hts, hr, hlk, hK, had, hSt⟩ := id C
  intro H locs ls hl hP hS
  unfold fX11_tries_s123 at hf
  refine lv_lload hx hb dX11_tries_123 (lv_at hl 0 rfl) ?_
  exact g_lret hx hb hr hlk hP hS dX11_tries_125 hf
def fX11_tries_s105 (n : Nat) (K96 : Int64 → Int32 → St → Option (Int64 × St))  (v9 : Int64) (v11 : Int32) (st : St) : Option (Int64 × St) := if inb v11 8 = true then (K96 (v9 + (st.2 145 v11.toNatClampNeg)) (v11 + 1) st) else none
set_option maxHeartbeats 4000000 in
set_option maxRecDepth 100000 in
theorem wX11_tries_s105 (C : Cx p s m args meth c cX11_tries 12 wsL_law RX11 (some .long) D G ad) (n : Nat) (K96 : Int64 → Int32 → St → Option (Int64 × St))  (v9 : Int64) (v11 : Int32)   (st : St) (res : (Int64 × St)) (hK96 : ∀ (v9 : Int64) (v11 : Int32) (st : St), K96 v9 v11 st = some res → At p l e (rmK 6) s m args below meth c D G ad (MQJ D G ad below args s res) 12 st [(0, .ref (ad 130)), (9, .long v9), (11, .int v11)] 96 []) (hf : fX11_tries_s105 n K96  v9 v11 st = some res) : At p l e (rmK 6) s m args below meth c D G ad (MQJ D G ad below args s res) 12 st [(0, .ref (ad 130)), (9, .long v9), (11, .int v11)] 105 [] := by
  obtain ⟨hx, hb, hml, hown, hts, hr, hlk, hK, had, hSt⟩ := id C
  intro H locs ls hl hP hS
  unfold fX11_tries_s105 at hf
  refine lv_lload hx hb dX11_tries_105 (lv_at hl 1 rfl) ?_
  refine lv_aload_n hx hb dX11_tries_107 rfl (lv_at hl 0 rfl) ?_
  refine g_getR hx hb hts inlX11 hown hK hP 130 ct_130 rfl 20 (by decide) (hts _ wm_7_16) rfl dX11_tries_108 ?_
  refine lv_iload hx hb dX11_tries_111 (lv_at hl 2 rfl) ?_
  obtain ⟨g1, hf⟩ := gd hf
  refine g_lald hx hb hK hP 145 ct_145 g1 dX11_tries_113 ?_
  refine lv_ladd hx hb dX11_tries_114 ?_
  refine lv_lstore (lv' := [(9, .long (v9 + (st.2 145 v11.toNatClampNeg))), (0, .ref (ad 130)), (11, .int v11)]) hx hb dX11_tries_115 hl (by decide) rfl (fun ls hl => ?_)
  refine lv_iinc (v := v11 + 1) (lv' := [(11, .int (v11 + 1)), (9, .long (v9 + (st.2 145 v11.toNatClampNeg))), (0, .ref (ad 130))]) hx hb dX11_tries_117 hl (k := 2) rfl rfl (by decide) rfl (fun ls hl => ?_)
  refine lv_goto (tgt := 96) hx hb dX11_tries_120 (by decide) ?_
  exact hK96 (v9 + (st.2 145 v11.toNatClampNeg)) (v11 + 1)  st hf H locs ls (lv_sub hl [2, 1, 0] rfl) hP hS
def fX11_tries_s96 (n : Nat) (K96 : Int64 → Int32 → St → Option (Int64 × St))  (v9 : Int64) (v11 : Int32) (st : St) : Option (Int64 × St) := if (st.1 130 0) ≤ v11 then fX11_tries_s123 n v9 st else fX11_tries_s105 n K96 v9 v11 st
set_option maxHeartbeats 4000000 in
set_option maxRecDepth 100000 in
theorem wX11_tries_s96 (C : Cx p s m args meth c cX11_tries 12 wsL_law RX11 (some .long) D G ad) (n : Nat) (K96 : Int64 → Int32 → St → Option (Int64 × St))  (v9 : Int64) (v11 : Int32)   (st : St) (res : (Int64 × St)) (hK96 : ∀ (v9 : Int64) (v11 : Int32) (st : St), K96 v9 v11 st = some res → At p l e (rmK 6) s m args below meth c D G ad (MQJ D G ad below args s res) 12 st [(0, .ref (ad 130)), (9, .long v9), (11, .int v11)] 96 []) (hf : fX11_tries_s96 n K96  v9 v11 st = some res) : At p l e (rmK 6) s m args below meth c D G ad (MQJ D G ad below args s res) 12 st [(0, .ref (ad 130)), (9, .long v9), (11, .int v11)] 96 [] := by
  obtain ⟨hx, hb, hml, hown, hts, hr, hlk, hK, had, hSt⟩ := id C
  intro H locs ls hl hP hS
  unfold fX11_tries_s96 at hf
  refine lv_iload hx hb dX11_tries_96 (lv_at hl 2 rfl) ?_
  refine lv_aload_n hx hb dX11_tries_98 rfl (lv_at hl 0 rfl) ?_
  refine g_getI hx hb hts inlX11 hown hK hP 130 ct_130 rfl 0 (by decide) (hts _ wm_10_11) rfl dX11_tries_99 ?_
  refine lv_icmp_ge (tgt := 123) hx hb dX11_tries_102 (by decide) (fun q => ?_) (fun q => ?_)
  · exact wX11_tries_s123 C n v9 st res (it hf q) H locs ls (lv_sub hl [1] rfl) hP hS
  · exact wX11_tries_s105 C n K96 v9 v11 st res hK96 (ie hf q) H locs ls (lv_sub hl [0, 1, 2] rfl) hP hS
def fX11_tries_L96 (n : Nat)   : Nat → Int64 → Int32 → St → Option (Int64 × St)
  | 0, _, _, _ => none
  | k + 1, v9, v11, st => fX11_tries_s96 n (fX11_tries_L96 n k)  v9 v11 st
theorem wX11_tries_L96 (C : Cx p s m args meth c cX11_tries 12 wsL_law RX11 (some .long) D G ad) (n : Nat)    (res : (Int64 × St))  : ∀ (k : Nat) (v9 : Int64) (v11 : Int32)  (st : St), fX11_tries_L96 n k v9 v11 st = some res → At p l e (rmK 6) s m args below meth c D G ad (MQJ D G ad below args s res) 12 st [(0, .ref (ad 130)), (9, .long v9), (11, .int v11)] 96 [] := by
  intro k
  induction k with
  | zero => intro v9 v11  st h; exact absurd h (by intro q; cases q)
  | succ k ih => intro v9 v11  st h; exact wX11_tries_s96 C n (fX11_tries_L96 n k)  v9 v11   st res ih h
def fX11_tries_s90 (n : Nat)    (st : St) : Option (Int64 × St) := fX11_tries_L96 n n 0 0 st
set_option maxHeartbeats 4000000 in
set_option maxRecDepth 100000 in
theorem wX11_tries_s90 (C : Cx p s m args meth c cX11_tries 12 wsL_law RX11 (some .long) D G ad) (n : Nat)      (st : St) (res : (Int64 × St))  (hf : fX11_tries_s90 n    st = some res) : At p l e (rmK 6) s m args below meth c D G ad (MQJ D G ad below args s res) 12 st [(0, .ref (ad 130))] 90 [] := by
  obtain ⟨hx, hb, hml, hown, hts, hr, hlk, hK, had, hSt⟩ := id C
  intro H locs ls hl hP hS
  unfold fX11_tries_s90 at hf
  refine lv_lconst (v := 0) hx hb dX11_tries_90 (by decide) ?_
  refine lv_lstore (lv' := [(9, .long 0), (0, .ref (ad 130))]) hx hb dX11_tries_91 hl (by decide) rfl (fun ls hl => ?_)
  refine lv_iconst (v := 0) hx hb dX11_tries_93 (by decide) ?_
  refine lv_istore (lv' := [(11, .int 0), (9, .long 0), (0, .ref (ad 130))]) hx hb dX11_tries_94 hl (by decide) rfl (fun ls hl => ?_)
  exact wX11_tries_L96 C n res n 0 0 st hf H locs ls (lv_sub hl [2, 1, 0] rfl) hP hS
def fX11_tries_s87 (n : Nat)   (v7 : Int64) (st : St) : Option (Int64 × St) := some (v7, st)
set_option maxHeartbeats 4000000 in
set_option maxRecDepth 100000 in
theorem wX11_tries_s87 (C : Cx p s m args meth c cX11_tries 12 wsL_law RX11 (some .long) D G ad) (n : Nat)   (v7 : Int64)   (st : St) (res : (Int64 × St))  (hf : fX11_tries_s87 n   v7 st = some res) : At p l e (rmK 6) s m args below meth c D G ad (MQJ D G ad below args s res) 12 st [(7, .long v7)] 87 [] := by
  obtain ⟨hx, hb, hml, hown, hts, hr, hlk, hK, had, hSt⟩ := id C
  intro H locs ls hl hP hS
  unfold fX11_tries_s87 at hf
  refine lv_lload hx hb dX11_tries_87 (lv_at hl 0 rfl) ?_
  exact g_lret hx hb hr hlk hP hS dX11_tries_89 hf
def fX11_tries_s82 (n : Nat)   (v2 : Int32) (v7 : Int64) (st : St) : Option (Int64 × St) := if v2 = 1 then fX11_tries_s87 n v7 st else fX11_tries_s90 n st
set_option maxHeartbeats 4000000 in
set_option maxRecDepth 100000 in
theorem wX11_tries_s82 (C : Cx p s m args meth c cX11_tries 12 wsL_law RX11 (some .long) D G ad) (n : Nat)   (v2 : Int32) (v7 : Int64)   (st : St) (res : (Int64 × St))  (hf : fX11_tries_s82 n   v2 v7 st = some res) : At p l e (rmK 6) s m args below meth c D G ad (MQJ D G ad below args s res) 12 st [(0, .ref (ad 130)), (2, .int v2), (7, .long v7)] 82 [] := by
  obtain ⟨hx, hb, hml, hown, hts, hr, hlk, hK, had, hSt⟩ := id C
  intro H locs ls hl hP hS
  unfold fX11_tries_s82 at hf
  refine lv_iload_n hx hb dX11_tries_82 rfl (lv_at hl 1 rfl) ?_
  refine lv_iconst (v := 1) hx hb dX11_tries_83 (by decide) ?_
  refine lv_icmp_ne (tgt := 90) hx hb dX11_tries_84 (by decide) (fun q => ?_) (fun q => ?_)
  · exact wX11_tries_s90 C n st res (ie hf q) H locs ls (lv_sub hl [0] rfl) hP hS
  · exact wX11_tries_s87 C n v7 st res (it hf q) H locs ls (lv_sub hl [2] rfl) hP hS
def fX11_tries_s74 (n : Nat) (K6 : Int32 → Int32 → Int32 → Int32 → Int32 → Int32 → Int64 → Int32 → St → Option (Int64 × St))  (v1 : Int32) (v2 : Int32) (v3 : Int32) (v4 : Int32) (v5 : Int32) (v6 : Int32) (v9 : Int32) (k0 : Int64) (st : St) : Option (Int64 × St) := K6 v1 v2 v3 v4 v5 v6 k0 (v9 + 1) st
set_option maxHeartbeats 4000000 in
set_option maxRecDepth 100000 in
theorem wX11_tries_s74 (C : Cx p s m args meth c cX11_tries 12 wsL_law RX11 (some .long) D G ad) (n : Nat) (K6 : Int32 → Int32 → Int32 → Int32 → Int32 → Int32 → Int64 → Int32 → St → Option (Int64 × St))  (v1 : Int32) (v2 : Int32) (v3 : Int32) (v4 : Int32) (v5 : Int32) (v6 : Int32) (v9 : Int32) (k0 : Int64)   (st : St) (res : (Int64 × St)) (hK6 : ∀ (v1 : Int32) (v2 : Int32) (v3 : Int32) (v4 : Int32) (v5 : Int32) (v6 : Int32) (v7 : Int64) (v9 : Int32) (st : St), K6 v1 v2 v3 v4 v5 v6 v7 v9 st = some res → At p l e (rmK 6) s m args below meth c D G ad (MQJ D G ad below args s res) 12 st [(0, .ref (ad 130)), (1, .int v1), (2, .int v2), (3, .int v3), (4, .int v4), (5, .int v5), (6, .int v6), (7, .long v7), (9, .int v9)] 6 []) (hf : fX11_tries_s74 n K6  v1 v2 v3 v4 v5 v6 v9 k0 st = some res) : At p l e (rmK 6) s m args below meth c D G ad (MQJ D G ad below args s res) 12 st [(0, .ref (ad 130)), (1, .int v1), (2, .int v2), (3, .int v3), (4, .int v4), (5, .int v5), (6, .int v6), (9, .int v9)] 74 [.long k0] := by
  obtain ⟨hx, hb, hml, hown, hts, hr, hlk, hK, had, hSt⟩ := id C
  intro H locs ls hl hP hS
  unfold fX11_tries_s74 at hf
  refine lv_lstore (lv' := [(7, .long k0), (0, .ref (ad 130)), (1, .int v1), (2, .int v2), (3, .int v3), (4, .int v4), (5, .int v5), (6, .int v6), (9, .int v9)]) hx hb dX11_tries_74 hl (by decide) rfl (fun ls hl => ?_)
  refine lv_iinc (v := v9 + 1) (lv' := [(9, .int (v9 + 1)), (7, .long k0), (0, .ref (ad 130)), (1, .int v1), (2, .int v2), (3, .int v3), (4, .int v4), (5, .int v5), (6, .int v6)]) hx hb dX11_tries_76 hl (k := 8) rfl rfl (by decide) rfl (fun ls hl => ?_)
  refine lv_goto (tgt := 6) hx hb dX11_tries_79 (by decide) ?_
  exact hK6 v1 v2 v3 v4 v5 v6 k0 (v9 + 1)  st hf H locs ls (lv_sub hl [2, 3, 4, 5, 6, 7, 8, 1, 0] rfl) hP hS
def fX11_tries_s72 (n : Nat) (K6 : Int32 → Int32 → Int32 → Int32 → Int32 → Int32 → Int64 → Int32 → St → Option (Int64 × St))  (v1 : Int32) (v2 : Int32) (v3 : Int32) (v4 : Int32) (v5 : Int32) (v6 : Int32) (v7 : Int64) (v9 : Int32) (st : St) : Option (Int64 × St) := fX11_tries_s74 n K6 v1 v2 v3 v4 v5 v6 v9 v7 st
set_option maxHeartbeats 4000000 in
set_option maxRecDepth 100000 in
theorem wX11_tries_s72 (C : Cx p s m args meth c cX11_tries 12 wsL_law RX11 (some .long) D G ad) (n : Nat) (K6 : Int32 → Int32 → Int32 → Int32 → Int32 → Int32 → Int64 → Int32 → St → Option (Int64 × St))  (v1 : Int32) (v2 : Int32) (v3 : Int32) (v4 : Int32) (v5 : Int32) (v6 : Int32) (v7 : Int64) (v9 : Int32)   (st : St) (res : (Int64 × St)) (hK6 : ∀ (v1 : Int32) (v2 : Int32) (v3 : Int32) (v4 : Int32) (v5 : Int32) (v6 : Int32) (v7 : Int64) (v9 : Int32) (st : St), K6 v1 v2 v3 v4 v5 v6 v7 v9 st = some res → At p l e (rmK 6) s m args below meth c D G ad (MQJ D G ad below args s res) 12 st [(0, .ref (ad 130)), (1, .int v1), (2, .int v2), (3, .int v3), (4, .int v4), (5, .int v5), (6, .int v6), (7, .long v7), (9, .int v9)] 6 []) (hf : fX11_tries_s72 n K6  v1 v2 v3 v4 v5 v6 v7 v9 st = some res) : At p l e (rmK 6) s m args below meth c D G ad (MQJ D G ad below args s res) 12 st [(0, .ref (ad 130)), (1, .int v1), (2, .int v2), (3, .int v3), (4, .int v4), (5, .int v5), (6, .int v6), (7, .long v7), (9, .int v9)] 72 [] := by
  obtain ⟨hx, hb, hml, hown, hts, hr, hlk, hK, had, hSt⟩ := id C
  intro H locs ls hl hP hS
  unfold fX11_tries_s72 at hf
  refine lv_lload hx hb dX11_tries_72 (lv_at hl 7 rfl) ?_
  exact wX11_tries_s74 C n K6 v1 v2 v3 v4 v5 v6 v9 v7 st res hK6 hf H locs ls (lv_sub hl [0, 1, 2, 3, 4, 5, 6, 8] rfl) hP hS
def fX11_tries_s63 (n : Nat) (K6 : Int32 → Int32 → Int32 → Int32 → Int32 → Int32 → Int64 → Int32 → St → Option (Int64 × St))  (v1 : Int32) (v2 : Int32) (v3 : Int32) (v4 : Int32) (v5 : Int32) (v6 : Int32) (v9 : Int32) (st : St) : Option (Int64 × St) := if inb 0 8 = true then (fX11_tries_s74 n K6 v1 v2 v3 v4 v5 v6 v9 (st.2 148 (0 : Int32).toNatClampNeg) st) else none
set_option maxHeartbeats 4000000 in
set_option maxRecDepth 100000 in
theorem wX11_tries_s63 (C : Cx p s m args meth c cX11_tries 12 wsL_law RX11 (some .long) D G ad) (n : Nat) (K6 : Int32 → Int32 → Int32 → Int32 → Int32 → Int32 → Int64 → Int32 → St → Option (Int64 × St))  (v1 : Int32) (v2 : Int32) (v3 : Int32) (v4 : Int32) (v5 : Int32) (v6 : Int32) (v9 : Int32)   (st : St) (res : (Int64 × St)) (hK6 : ∀ (v1 : Int32) (v2 : Int32) (v3 : Int32) (v4 : Int32) (v5 : Int32) (v6 : Int32) (v7 : Int64) (v9 : Int32) (st : St), K6 v1 v2 v3 v4 v5 v6 v7 v9 st = some res → At p l e (rmK 6) s m args below meth c D G ad (MQJ D G ad below args s res) 12 st [(0, .ref (ad 130)), (1, .int v1), (2, .int v2), (3, .int v3), (4, .int v4), (5, .int v5), (6, .int v6), (7, .long v7), (9, .int v9)] 6 []) (hf : fX11_tries_s63 n K6  v1 v2 v3 v4 v5 v6 v9 st = some res) : At p l e (rmK 6) s m args below meth c D G ad (MQJ D G ad below args s res) 12 st [(0, .ref (ad 130)), (1, .int v1), (2, .int v2), (3, .int v3), (4, .int v4), (5, .int v5), (6, .int v6), (9, .int v9)] 63 [] := by
  obtain ⟨hx, hb, hml, hown, hts, hr, hlk, hK, had, hSt⟩ := id C
  intro H locs ls hl hP hS
  unfold fX11_tries_s63 at hf
  refine lv_aload_n hx hb dX11_tries_63 rfl (lv_at hl 0 rfl) ?_
  refine g_getR hx hb hts inlX11 hown hK hP 130 ct_130 rfl 23 (by decide) (hts _ wm_7_19) rfl dX11_tries_64 ?_
  refine lv_iconst (v := 0) hx hb dX11_tries_67 (by decide) ?_
  obtain ⟨g1, hf⟩ := gd hf
  refine g_lald hx hb hK hP 148 ct_148 g1 dX11_tries_68 ?_
  refine lv_goto (tgt := 74) hx hb dX11_tries_69 (by decide) ?_
  exact wX11_tries_s74 C n K6 v1 v2 v3 v4 v5 v6 v9 (st.2 148 (0 : Int32).toNatClampNeg) st res hK6 hf H locs ls (lv_sub hl [0, 1, 2, 3, 4, 5, 6, 7] rfl) hP hS
def fX11_tries_s49 (n : Nat) (K6 : Int32 → Int32 → Int32 → Int32 → Int32 → Int32 → Int64 → Int32 → St → Option (Int64 × St))  (v1 : Int32) (v2 : Int32) (v3 : Int32) (v4 : Int32) (v5 : Int32) (v6 : Int32) (v7 : Int64) (v9 : Int32) (k0 : Int32) (st : St) : Option (Int64 × St) := if inb 0 8 = true then (if (st.2 148 (0 : Int32).toNatClampNeg) ≤ v7 then fX11_tries_s72 n K6 v1 v2 v3 v4 v5 v6 v7 v9 st else fX11_tries_s63 n K6 v1 v2 v3 v4 v5 v6 v9 st) else none
set_option maxHeartbeats 4000000 in
set_option maxRecDepth 100000 in
theorem wX11_tries_s49 (C : Cx p s m args meth c cX11_tries 12 wsL_law RX11 (some .long) D G ad) (n : Nat) (K6 : Int32 → Int32 → Int32 → Int32 → Int32 → Int32 → Int64 → Int32 → St → Option (Int64 × St))  (v1 : Int32) (v2 : Int32) (v3 : Int32) (v4 : Int32) (v5 : Int32) (v6 : Int32) (v7 : Int64) (v9 : Int32) (k0 : Int32)   (st : St) (res : (Int64 × St)) (hK6 : ∀ (v1 : Int32) (v2 : Int32) (v3 : Int32) (v4 : Int32) (v5 : Int32) (v6 : Int32) (v7 : Int64) (v9 : Int32) (st : St), K6 v1 v2 v3 v4 v5 v6 v7 v9 st = some res → At p l e (rmK 6) s m args below meth c D G ad (MQJ D G ad below args s res) 12 st [(0, .ref (ad 130)), (1, .int v1), (2, .int v2), (3, .int v3), (4, .int v4), (5, .int v5), (6, .int v6), (7, .long v7), (9, .int v9)] 6 []) (hf : fX11_tries_s49 n K6  v1 v2 v3 v4 v5 v6 v7 v9 k0 st = some res) : At p l e (rmK 6) s m args below meth c D G ad (MQJ D G ad below args s res) 12 st [(0, .ref (ad 130)), (1, .int v1), (2, .int v2), (3, .int v3), (4, .int v4), (5, .int v5), (6, .int v6), (7, .long v7), (9, .int v9)] 49 [.int k0] := by
  obtain ⟨hx, hb, hml, hown, hts, hr, hlk, hK, had, hSt⟩ := id C
  intro H locs ls hl hP hS
  unfold fX11_tries_s49 at hf
  refine lv_istore (lv' := [(10, .int k0), (0, .ref (ad 130)), (1, .int v1), (2, .int v2), (3, .int v3), (4, .int v4), (5, .int v5), (6, .int v6), (7, .long v7), (9, .int v9)]) hx hb dX11_tries_49 hl (by decide) rfl (fun ls hl => ?_)
  refine lv_aload_n hx hb dX11_tries_51 rfl (lv_at hl 1 rfl) ?_
  refine g_getR hx hb hts inlX11 hown hK hP 130 ct_130 rfl 23 (by decide) (hts _ wm_7_19) rfl dX11_tries_52 ?_
  refine lv_iconst (v := 0) hx hb dX11_tries_55 (by decide) ?_
  obtain ⟨g1, hf⟩ := gd hf
  refine g_lald hx hb hK hP 148 ct_148 g1 dX11_tries_56 ?_
  refine lv_lload hx hb dX11_tries_57 (lv_at hl 8 rfl) ?_
  refine g_lcmp_le (tgt := 72) hx hb dX11_tries_59 dX11_tries_60 (by decide) (fun q => ?_) (fun q => ?_)
  · exact wX11_tries_s72 C n K6 v1 v2 v3 v4 v5 v6 v7 v9 st res hK6 (it hf q) H locs ls (lv_sub hl [1, 2, 3, 4, 5, 6, 7, 8, 9] rfl) hP hS
  · exact wX11_tries_s63 C n K6 v1 v2 v3 v4 v5 v6 v9 st res hK6 (ie hf q) H locs ls (lv_sub hl [1, 2, 3, 4, 5, 6, 7, 9] rfl) hP hS
def fX11_tries_s45 (n : Nat) (K6 : Int32 → Int32 → Int32 → Int32 → Int32 → Int32 → Int64 → Int32 → St → Option (Int64 × St))  (v1 : Int32) (v2 : Int32) (v3 : Int32) (v4 : Int32) (v5 : Int32) (v6 : Int32) (v7 : Int64) (v9 : Int32) (st : St) : Option (Int64 × St) := (fX11_goesBy n st).bind (fun q => fX11_tries_s49 n K6 v1 v2 v3 v4 v5 v6 v7 v9 q.1 q.2)
set_option maxHeartbeats 4000000 in
set_option maxRecDepth 100000 in
theorem wX11_tries_s45 (C : Cx p s m args meth c cX11_tries 12 wsL_law RX11 (some .long) D G ad) (n : Nat) (K6 : Int32 → Int32 → Int32 → Int32 → Int32 → Int32 → Int64 → Int32 → St → Option (Int64 × St))  (v1 : Int32) (v2 : Int32) (v3 : Int32) (v4 : Int32) (v5 : Int32) (v6 : Int32) (v7 : Int64) (v9 : Int32)   (st : St) (res : (Int64 × St)) (hK6 : ∀ (v1 : Int32) (v2 : Int32) (v3 : Int32) (v4 : Int32) (v5 : Int32) (v6 : Int32) (v7 : Int64) (v9 : Int32) (st : St), K6 v1 v2 v3 v4 v5 v6 v7 v9 st = some res → At p l e (rmK 6) s m args below meth c D G ad (MQJ D G ad below args s res) 12 st [(0, .ref (ad 130)), (1, .int v1), (2, .int v2), (3, .int v3), (4, .int v4), (5, .int v5), (6, .int v6), (7, .long v7), (9, .int v9)] 6 []) (hf : fX11_tries_s45 n K6  v1 v2 v3 v4 v5 v6 v7 v9 st = some res) : At p l e (rmK 6) s m args below meth c D G ad (MQJ D G ad below args s res) 12 st [(0, .ref (ad 130)), (1, .int v1), (2, .int v2), (3, .int v3), (4, .int v4), (5, .int v5), (6, .int v6), (7, .long v7), (9, .int v9)] 45 [] := by
  obtain ⟨hx, hb, hml, hown, hts, hr, hlk, hK, had, hSt⟩ := id C
  intro H locs ls hl hP hS
  unfold fX11_tries_s45 at hf
  refine lv_aload_n hx hb dX11_tries_45 rfl (lv_at hl 0 rfl) ?_
  obtain ⟨q, hq, hf⟩ := bd hf
  refine gcV_i (k := 5) (o := 130) (As := []) (rest := []) hx hb hml hown hts hK hSt hP hS hl.1 (goodV wm_22_19 wm_22_20 wm_22_21 wm_1_5 wm_22_22) okX11_goesBy ct_130 rfl rfl (Nat.le_of_ble_eq_true rfl) (Nat.le_of_ble_eq_true rfl) rfl rfl (Nat.le_of_ble_eq_true rfl) dX11_tries_46 (kX11_goesBy l D G ad had n   st q hq) (fun H locs hP hS => ?_)
  exact wX11_tries_s49 C n K6 v1 v2 v3 v4 v5 v6 v7 v9 q.1 q.2 res hK6 hf H locs ls (lv_sub hl [0, 1, 2, 3, 4, 5, 6, 7, 8] rfl) hP hS
def fX11_tries_s44 (n : Nat) (K6 : Int32 → Int32 → Int32 → Int32 → Int32 → Int32 → Int64 → Int32 → St → Option (Int64 × St))  (v1 : Int32) (v2 : Int32) (v3 : Int32) (v4 : Int32) (v5 : Int32) (v6 : Int32) (v7 : Int64) (v9 : Int32) (k1 : Int32) (k2 : Int32) (st : St) : Option (Int64 × St) := if inb k1 8 = true then (fX11_tries_s45 n K6 v1 v2 v3 v4 v5 v6 v7 v9 (setI st 140 k1.toNatClampNeg k2)) else none
set_option maxHeartbeats 4000000 in
set_option maxRecDepth 100000 in
theorem wX11_tries_s44 (C : Cx p s m args meth c cX11_tries 12 wsL_law RX11 (some .long) D G ad) (n : Nat) (K6 : Int32 → Int32 → Int32 → Int32 → Int32 → Int32 → Int64 → Int32 → St → Option (Int64 × St))  (v1 : Int32) (v2 : Int32) (v3 : Int32) (v4 : Int32) (v5 : Int32) (v6 : Int32) (v7 : Int64) (v9 : Int32) (k1 : Int32) (k2 : Int32)   (st : St) (res : (Int64 × St)) (hK6 : ∀ (v1 : Int32) (v2 : Int32) (v3 : Int32) (v4 : Int32) (v5 : Int32) (v6 : Int32) (v7 : Int64) (v9 : Int32) (st : St), K6 v1 v2 v3 v4 v5 v6 v7 v9 st = some res → At p l e (rmK 6) s m args below meth c D G ad (MQJ D G ad below args s res) 12 st [(0, .ref (ad 130)), (1, .int v1), (2, .int v2), (3, .int v3), (4, .int v4), (5, .int v5), (6, .int v6), (7, .long v7), (9, .int v9)] 6 []) (hf : fX11_tries_s44 n K6  v1 v2 v3 v4 v5 v6 v7 v9 k1 k2 st = some res) : At p l e (rmK 6) s m args below meth c D G ad (MQJ D G ad below args s res) 12 st [(0, .ref (ad 130)), (1, .int v1), (2, .int v2), (3, .int v3), (4, .int v4), (5, .int v5), (6, .int v6), (7, .long v7), (9, .int v9)] 44 [.int k2, .int k1, .ref (ad 140)] := by
  obtain ⟨hx, hb, hml, hown, hts, hr, hlk, hK, had, hSt⟩ := id C
  intro H locs ls hl hP hS
  unfold fX11_tries_s44 at hf
  obtain ⟨g1, hf⟩ := gd hf
  refine g_iast hx hb hK had hP hS 140 ct_140 g1 dX11_tries_44 (fun H locs hP hS => ?_)
  exact wX11_tries_s45 C n K6 v1 v2 v3 v4 v5 v6 v7 v9 (setI st 140 k1.toNatClampNeg k2) res hK6 hf H locs ls (lv_sub hl [0, 1, 2, 3, 4, 5, 6, 7, 8] rfl) hP hS
def fX11_tries_s42 (n : Nat) (K6 : Int32 → Int32 → Int32 → Int32 → Int32 → Int32 → Int64 → Int32 → St → Option (Int64 × St))  (v1 : Int32) (v2 : Int32) (v3 : Int32) (v4 : Int32) (v5 : Int32) (v6 : Int32) (v7 : Int64) (v9 : Int32) (k1 : Int32) (st : St) : Option (Int64 × St) := fX11_tries_s44 n K6 v1 v2 v3 v4 v5 v6 v7 v9 k1 v5 st
set_option maxHeartbeats 4000000 in
set_option maxRecDepth 100000 in
theorem wX11_tries_s42 (C : Cx p s m args meth c cX11_tries 12 wsL_law RX11 (some .long) D G ad) (n : Nat) (K6 : Int32 → Int32 → Int32 → Int32 → Int32 → Int32 → Int64 → Int32 → St → Option (Int64 × St))  (v1 : Int32) (v2 : Int32) (v3 : Int32) (v4 : Int32) (v5 : Int32) (v6 : Int32) (v7 : Int64) (v9 : Int32) (k1 : Int32)   (st : St) (res : (Int64 × St)) (hK6 : ∀ (v1 : Int32) (v2 : Int32) (v3 : Int32) (v4 : Int32) (v5 : Int32) (v6 : Int32) (v7 : Int64) (v9 : Int32) (st : St), K6 v1 v2 v3 v4 v5 v6 v7 v9 st = some res → At p l e (rmK 6) s m args below meth c D G ad (MQJ D G ad below args s res) 12 st [(0, .ref (ad 130)), (1, .int v1), (2, .int v2), (3, .int v3), (4, .int v4), (5, .int v5), (6, .int v6), (7, .long v7), (9, .int v9)] 6 []) (hf : fX11_tries_s42 n K6  v1 v2 v3 v4 v5 v6 v7 v9 k1 st = some res) : At p l e (rmK 6) s m args below meth c D G ad (MQJ D G ad below args s res) 12 st [(0, .ref (ad 130)), (1, .int v1), (2, .int v2), (3, .int v3), (4, .int v4), (5, .int v5), (6, .int v6), (7, .long v7), (9, .int v9)] 42 [.int k1, .ref (ad 140)] := by
  obtain ⟨hx, hb, hml, hown, hts, hr, hlk, hK, had, hSt⟩ := id C
  intro H locs ls hl hP hS
  unfold fX11_tries_s42 at hf
  refine lv_iload hx hb dX11_tries_42 (lv_at hl 5 rfl) ?_
  exact wX11_tries_s44 C n K6 v1 v2 v3 v4 v5 v6 v7 v9 k1 v5 st res hK6 hf H locs ls (lv_sub hl [0, 1, 2, 3, 4, 5, 6, 7, 8] rfl) hP hS
def fX11_tries_s37 (n : Nat) (K6 : Int32 → Int32 → Int32 → Int32 → Int32 → Int32 → Int64 → Int32 → St → Option (Int64 × St))  (v1 : Int32) (v2 : Int32) (v3 : Int32) (v4 : Int32) (v5 : Int32) (v6 : Int32) (v7 : Int64) (v9 : Int32) (k1 : Int32) (st : St) : Option (Int64 × St) := fX11_tries_s44 n K6 v1 v2 v3 v4 v5 v6 v7 v9 k1 v6 st
set_option maxHeartbeats 4000000 in
set_option maxRecDepth 100000 in
theorem wX11_tries_s37 (C : Cx p s m args meth c cX11_tries 12 wsL_law RX11 (some .long) D G ad) (n : Nat) (K6 : Int32 → Int32 → Int32 → Int32 → Int32 → Int32 → Int64 → Int32 → St → Option (Int64 × St))  (v1 : Int32) (v2 : Int32) (v3 : Int32) (v4 : Int32) (v5 : Int32) (v6 : Int32) (v7 : Int64) (v9 : Int32) (k1 : Int32)   (st : St) (res : (Int64 × St)) (hK6 : ∀ (v1 : Int32) (v2 : Int32) (v3 : Int32) (v4 : Int32) (v5 : Int32) (v6 : Int32) (v7 : Int64) (v9 : Int32) (st : St), K6 v1 v2 v3 v4 v5 v6 v7 v9 st = some res → At p l e (rmK 6) s m args below meth c D G ad (MQJ D G ad below args s res) 12 st [(0, .ref (ad 130)), (1, .int v1), (2, .int v2), (3, .int v3), (4, .int v4), (5, .int v5), (6, .int v6), (7, .long v7), (9, .int v9)] 6 []) (hf : fX11_tries_s37 n K6  v1 v2 v3 v4 v5 v6 v7 v9 k1 st = some res) : At p l e (rmK 6) s m args below meth c D G ad (MQJ D G ad below args s res) 12 st [(0, .ref (ad 130)), (1, .int v1), (2, .int v2), (3, .int v3), (4, .int v4), (5, .int v5), (6, .int v6), (7, .long v7), (9, .int v9)] 37 [.int k1, .ref (ad 140)] := by
  obtain ⟨hx, hb, hml, hown, hts, hr, hlk, hK, had, hSt⟩ := id C
  intro H locs ls hl hP hS
  unfold fX11_tries_s37 at hf
  refine lv_iload hx hb dX11_tries_37 (lv_at hl 6 rfl) ?_
  refine lv_goto (tgt := 44) hx hb dX11_tries_39 (by decide) ?_
  exact wX11_tries_s44 C n K6 v1 v2 v3 v4 v5 v6 v7 v9 k1 v6 st res hK6 hf H locs ls (lv_sub hl [0, 1, 2, 3, 4, 5, 6, 7, 8] rfl) hP hS
def fX11_tries_s17 (n : Nat) (K6 : Int32 → Int32 → Int32 → Int32 → Int32 → Int32 → Int64 → Int32 → St → Option (Int64 × St))  (v1 : Int32) (v2 : Int32) (v3 : Int32) (v4 : Int32) (v5 : Int32) (v6 : Int32) (v7 : Int64) (v9 : Int32) (st : St) : Option (Int64 × St) := if ((v4 >>> (((v3 - 1) - v9) &&& 31)) &&& 1) = 1 then fX11_tries_s37 n K6 v1 v2 v3 v4 v5 v6 v7 v9 v1 st else fX11_tries_s42 n K6 v1 v2 v3 v4 v5 v6 v7 v9 v1 st
set_option maxHeartbeats 4000000 in
set_option maxRecDepth 100000 in
theorem wX11_tries_s17 (C : Cx p s m args meth c cX11_tries 12 wsL_law RX11 (some .long) D G ad) (n : Nat) (K6 : Int32 → Int32 → Int32 → Int32 → Int32 → Int32 → Int64 → Int32 → St → Option (Int64 × St))  (v1 : Int32) (v2 : Int32) (v3 : Int32) (v4 : Int32) (v5 : Int32) (v6 : Int32) (v7 : Int64) (v9 : Int32)   (st : St) (res : (Int64 × St)) (hK6 : ∀ (v1 : Int32) (v2 : Int32) (v3 : Int32) (v4 : Int32) (v5 : Int32) (v6 : Int32) (v7 : Int64) (v9 : Int32) (st : St), K6 v1 v2 v3 v4 v5 v6 v7 v9 st = some res → At p l e (rmK 6) s m args below meth c D G ad (MQJ D G ad below args s res) 12 st [(0, .ref (ad 130)), (1, .int v1), (2, .int v2), (3, .int v3), (4, .int v4), (5, .int v5), (6, .int v6), (7, .long v7), (9, .int v9)] 6 []) (hf : fX11_tries_s17 n K6  v1 v2 v3 v4 v5 v6 v7 v9 st = some res) : At p l e (rmK 6) s m args below meth c D G ad (MQJ D G ad below args s res) 12 st [(0, .ref (ad 130)), (1, .int v1), (2, .int v2), (3, .int v3), (4, .int v4), (5, .int v5), (6, .int v6), (7, .long v7), (9, .int v9)] 17 [] := by
  obtain ⟨hx, hb, hml, hown, hts, hr, hlk, hK, had, hSt⟩ := id C
  intro H locs ls hl hP hS
  unfold fX11_tries_s17 at hf
  refine lv_aload_n hx hb dX11_tries_17 rfl (lv_at hl 0 rfl) ?_
  refine g_getR hx hb hts inlX11 hown hK hP 130 ct_130 rfl 15 (by decide) (hts _ wm_7_11) rfl dX11_tries_18 ?_
  refine lv_iload_n hx hb dX11_tries_21 rfl (lv_at hl 1 rfl) ?_
  refine lv_iload hx hb dX11_tries_22 (lv_at hl 4 rfl) ?_
  refine lv_iload_n hx hb dX11_tries_24 rfl (lv_at hl 3 rfl) ?_
  refine lv_iconst (v := 1) hx hb dX11_tries_25 (by decide) ?_
  refine lv_isub hx hb dX11_tries_26 ?_
  refine lv_iload hx hb dX11_tries_27 (lv_at hl 8 rfl) ?_
  refine lv_isub hx hb dX11_tries_29 ?_
  refine lv_ishr hx hb dX11_tries_30 ?_
  refine lv_iconst (v := 1) hx hb dX11_tries_31 (by decide) ?_
  refine lv_iand hx hb dX11_tries_32 ?_
  refine lv_iconst (v := 1) hx hb dX11_tries_33 (by decide) ?_
  refine lv_icmp_ne (tgt := 42) hx hb dX11_tries_34 (by decide) (fun q => ?_) (fun q => ?_)
  · exact wX11_tries_s42 C n K6 v1 v2 v3 v4 v5 v6 v7 v9 v1 st res hK6 (ie hf q) H locs ls (lv_sub hl [0, 1, 2, 3, 4, 5, 6, 7, 8] rfl) hP hS
  · exact wX11_tries_s37 C n K6 v1 v2 v3 v4 v5 v6 v7 v9 v1 st res hK6 (it hf q) H locs ls (lv_sub hl [0, 1, 2, 3, 4, 5, 6, 7, 8] rfl) hP hS
def fX11_tries_s12 (n : Nat) (K6 : Int32 → Int32 → Int32 → Int32 → Int32 → Int32 → Int64 → Int32 → St → Option (Int64 × St))  (v1 : Int32) (v2 : Int32) (v3 : Int32) (v4 : Int32) (v5 : Int32) (v6 : Int32) (v7 : Int64) (v9 : Int32) (st : St) : Option (Int64 × St) := (fX11_demands n 0 st).bind (fun q => fX11_tries_s17 n K6 v1 v2 v3 v4 v5 v6 v7 v9 q.2)
set_option maxHeartbeats 4000000 in
set_option maxRecDepth 100000 in
theorem wX11_tries_s12 (C : Cx p s m args meth c cX11_tries 12 wsL_law RX11 (some .long) D G ad) (n : Nat) (K6 : Int32 → Int32 → Int32 → Int32 → Int32 → Int32 → Int64 → Int32 → St → Option (Int64 × St))  (v1 : Int32) (v2 : Int32) (v3 : Int32) (v4 : Int32) (v5 : Int32) (v6 : Int32) (v7 : Int64) (v9 : Int32)   (st : St) (res : (Int64 × St)) (hK6 : ∀ (v1 : Int32) (v2 : Int32) (v3 : Int32) (v4 : Int32) (v5 : Int32) (v6 : Int32) (v7 : Int64) (v9 : Int32) (st : St), K6 v1 v2 v3 v4 v5 v6 v7 v9 st = some res → At p l e (rmK 6) s m args below meth c D G ad (MQJ D G ad below args s res) 12 st [(0, .ref (ad 130)), (1, .int v1), (2, .int v2), (3, .int v3), (4, .int v4), (5, .int v5), (6, .int v6), (7, .long v7), (9, .int v9)] 6 []) (hf : fX11_tries_s12 n K6  v1 v2 v3 v4 v5 v6 v7 v9 st = some res) : At p l e (rmK 6) s m args below meth c D G ad (MQJ D G ad below args s res) 12 st [(0, .ref (ad 130)), (1, .int v1), (2, .int v2), (3, .int v3), (4, .int v4), (5, .int v5), (6, .int v6), (7, .long v7), (9, .int v9)] 12 [] := by
  obtain ⟨hx, hb, hml, hown, hts, hr, hlk, hK, had, hSt⟩ := id C
  intro H locs ls hl hP hS
  unfold fX11_tries_s12 at hf
  refine lv_aload_n hx hb dX11_tries_12 rfl (lv_at hl 0 rfl) ?_
  refine lv_iconst (v := 0) hx hb dX11_tries_13 (by decide) ?_
  obtain ⟨q, hq, hf⟩ := bd hf
  refine gcV_v (k := 0) (o := 130) (As := [.int 0]) (rest := []) hx hb hml hown hts hK hSt hP hS hl.1 (goodV wm_24_16 wm_24_17 wm_24_18 wm_1_5 wm_24_19) okX11_demands ct_130 rfl rfl (Nat.le_of_ble_eq_true rfl) (Nat.le_of_ble_eq_true rfl) rfl rfl (Nat.le_of_ble_eq_true rfl) dX11_tries_14 (kX11_demands l D G ad had n  0 st q hq) (fun H locs hP hS => ?_)
  exact wX11_tries_s17 C n K6 v1 v2 v3 v4 v5 v6 v7 v9 q.2 res hK6 hf H locs ls (lv_sub hl [0, 1, 2, 3, 4, 5, 6, 7, 8] rfl) hP hS
def fX11_tries_s6 (n : Nat) (K6 : Int32 → Int32 → Int32 → Int32 → Int32 → Int32 → Int64 → Int32 → St → Option (Int64 × St))  (v1 : Int32) (v2 : Int32) (v3 : Int32) (v4 : Int32) (v5 : Int32) (v6 : Int32) (v7 : Int64) (v9 : Int32) (st : St) : Option (Int64 × St) := if v3 ≤ v9 then fX11_tries_s82 n v2 v7 st else fX11_tries_s12 n K6 v1 v2 v3 v4 v5 v6 v7 v9 st
set_option maxHeartbeats 4000000 in
set_option maxRecDepth 100000 in
theorem wX11_tries_s6 (C : Cx p s m args meth c cX11_tries 12 wsL_law RX11 (some .long) D G ad) (n : Nat) (K6 : Int32 → Int32 → Int32 → Int32 → Int32 → Int32 → Int64 → Int32 → St → Option (Int64 × St))  (v1 : Int32) (v2 : Int32) (v3 : Int32) (v4 : Int32) (v5 : Int32) (v6 : Int32) (v7 : Int64) (v9 : Int32)   (st : St) (res : (Int64 × St)) (hK6 : ∀ (v1 : Int32) (v2 : Int32) (v3 : Int32) (v4 : Int32) (v5 : Int32) (v6 : Int32) (v7 : Int64) (v9 : Int32) (st : St), K6 v1 v2 v3 v4 v5 v6 v7 v9 st = some res → At p l e (rmK 6) s m args below meth c D G ad (MQJ D G ad below args s res) 12 st [(0, .ref (ad 130)), (1, .int v1), (2, .int v2), (3, .int v3), (4, .int v4), (5, .int v5), (6, .int v6), (7, .long v7), (9, .int v9)] 6 []) (hf : fX11_tries_s6 n K6  v1 v2 v3 v4 v5 v6 v7 v9 st = some res) : At p l e (rmK 6) s m args below meth c D G ad (MQJ D G ad below args s res) 12 st [(0, .ref (ad 130)), (1, .int v1), (2, .int v2), (3, .int v3), (4, .int v4), (5, .int v5), (6, .int v6), (7, .long v7), (9, .int v9)] 6 [] := by
  obtain ⟨hx, hb, hml, hown, hts, hr, hlk, hK, had, hSt⟩ := id C
  intro H locs ls hl hP hS
  unfold fX11_tries_s6 at hf
  refine lv_iload hx hb dX11_tries_6 (lv_at hl 8 rfl) ?_
  refine lv_iload_n hx hb dX11_tries_8 rfl (lv_at hl 3 rfl) ?_
  refine lv_icmp_ge (tgt := 82) hx hb dX11_tries_9 (by decide) (fun q => ?_) (fun q => ?_)
  · exact wX11_tries_s82 C n v2 v7 st res (it hf q) H locs ls (lv_sub hl [0, 2, 7] rfl) hP hS
  · exact wX11_tries_s12 C n K6 v1 v2 v3 v4 v5 v6 v7 v9 st res hK6 (ie hf q) H locs ls (lv_sub hl [0, 1, 2, 3, 4, 5, 6, 7, 8] rfl) hP hS
def fX11_tries_L6 (n : Nat)   : Nat → Int32 → Int32 → Int32 → Int32 → Int32 → Int32 → Int64 → Int32 → St → Option (Int64 × St)
  | 0, _, _, _, _, _, _, _, _, _ => none
  | k + 1, v1, v2, v3, v4, v5, v6, v7, v9, st => fX11_tries_s6 n (fX11_tries_L6 n k)  v1 v2 v3 v4 v5 v6 v7 v9 st
theorem wX11_tries_L6 (C : Cx p s m args meth c cX11_tries 12 wsL_law RX11 (some .long) D G ad) (n : Nat)    (res : (Int64 × St))  : ∀ (k : Nat) (v1 : Int32) (v2 : Int32) (v3 : Int32) (v4 : Int32) (v5 : Int32) (v6 : Int32) (v7 : Int64) (v9 : Int32)  (st : St), fX11_tries_L6 n k v1 v2 v3 v4 v5 v6 v7 v9 st = some res → At p l e (rmK 6) s m args below meth c D G ad (MQJ D G ad below args s res) 12 st [(0, .ref (ad 130)), (1, .int v1), (2, .int v2), (3, .int v3), (4, .int v4), (5, .int v5), (6, .int v6), (7, .long v7), (9, .int v9)] 6 [] := by
  intro k
  induction k with
  | zero => intro v1 v2 v3 v4 v5 v6 v7 v9  st h; exact absurd h (by intro q; cases q)
  | succ k ih => intro v1 v2 v3 v4 v5 v6 v7 v9  st h; exact wX11_tries_s6 C n (fX11_tries_L6 n k)  v1 v2 v3 v4 v5 v6 v7 v9   st res ih h
def fX11_tries_s0 (n : Nat)   (v1 : Int32) (v2 : Int32) (v3 : Int32) (v4 : Int32) (v5 : Int32) (v6 : Int32) (st : St) : Option (Int64 × St) := fX11_tries_L6 n n v1 v2 v3 v4 v5 v6 0 0 st
set_option maxHeartbeats 4000000 in
set_option maxRecDepth 100000 in
theorem wX11_tries_s0 (C : Cx p s m args meth c cX11_tries 12 wsL_law RX11 (some .long) D G ad) (n : Nat)   (v1 : Int32) (v2 : Int32) (v3 : Int32) (v4 : Int32) (v5 : Int32) (v6 : Int32)   (st : St) (res : (Int64 × St))  (hf : fX11_tries_s0 n   v1 v2 v3 v4 v5 v6 st = some res) : At p l e (rmK 6) s m args below meth c D G ad (MQJ D G ad below args s res) 12 st [(0, .ref (ad 130)), (1, .int v1), (2, .int v2), (3, .int v3), (4, .int v4), (5, .int v5), (6, .int v6)] 0 [] := by
  obtain ⟨hx, hb, hml, hown, hts, hr, hlk, hK, had, hSt⟩ := id C
  intro H locs ls hl hP hS
  unfold fX11_tries_s0 at hf
  refine lv_lconst (v := 0) hx hb dX11_tries_0 (by decide) ?_
  refine lv_lstore (lv' := [(7, .long 0), (0, .ref (ad 130)), (1, .int v1), (2, .int v2), (3, .int v3), (4, .int v4), (5, .int v5), (6, .int v6)]) hx hb dX11_tries_1 hl (by decide) rfl (fun ls hl => ?_)
  refine lv_iconst (v := 0) hx hb dX11_tries_3 (by decide) ?_
  refine lv_istore (lv' := [(9, .int 0), (7, .long 0), (0, .ref (ad 130)), (1, .int v1), (2, .int v2), (3, .int v3), (4, .int v4), (5, .int v5), (6, .int v6)]) hx hb dX11_tries_4 hl (by decide) rfl (fun ls hl => ?_)
  exact wX11_tries_L6 C n res n v1 v2 v3 v4 v5 v6 0 0 st hf H locs ls (lv_sub hl [2, 3, 4, 5, 6, 7, 8, 1, 0] rfl) hP hS
def fX11_tries (n : Nat)  (a1 : Int32) (a2 : Int32) (a3 : Int32) (a4 : Int32) (a5 : Int32) (a6 : Int32) (st : St) : Option (Int64 × St) := fX11_tries_s0 n a1 a2 a3 a4 a5 a6 st
theorem okX11_tries : okY yX11_tries RX11 6 := by unfold okY; decide +kernel
end
set_option maxRecDepth 100000 in
theorem kX11_tries (l : Launch) (D : va_G) (G : G3) (ad : Nat → Nat) (had : Adr ad) (n : Nat)   (a1 : Int32) (a2 : Int32) (a3 : Int32) (a4 : Int32) (a5 : Int32) (a6 : Int32) (st : St) (res : (Int64 × St)) (hf : fX11_tries n  a1 a2 a3 a4 a5 a6 st = some res) {sz : Nat} : CtJ l yX11_tries (wsU yX11_tries cX11_tries 12 (some .long)) (rmK 6) D G ad sz [.ref (ad 130), .int a1, .int a2, .int a3, .int a4, .int a5, .int a6] st res := by
  refine Met.ofW (cc := cX11_tries) (maxL := 12) (ret := (some .long)) (by decide) rfl ?_
  intro p e s m args below meth c s₁ B hml hv
  obtain ⟨rfl, hsz, hP, hK, hSt⟩ := hv
  have hts := atoms_spec (ws := wsU yX11_tries cX11_tries 12 (some .long)) B.pre
  have C : Cx p s m _ meth c cX11_tries 12 wsL_law RX11 (some .long) D G ad := ⟨B.exec, B.bytes, hml, findClass_of_methodNamed B.named, fun w h => hts w (List.mem_cons_of_mem _ h), B.returns, B.notSynchronized, hK, had, hSt⟩
  subst hsz
  have hl := lv_entry ([.ref (ad 130), .int a1, .int a2, .int a3, .int a4, .int a5, .int a6]) (n := 12) (Nat.le_of_ble_eq_true rfl)
  rw [lg_entry_eq]
  generalize (lg_sl ([.ref (ad 130), .int a1, .int a2, .int a3, .int a4, .int a5, .int a6]) ++ List.replicate (12 - (lg_sl ([.ref (ad 130), .int a1, .int a2, .int a3, .int a4, .int a5, .int a6])).length) Slot.unset).toArray = ls at hl ⊢
  exact wX11_tries_s0 C n  a1 a2 a3 a4 a5 a6   st res hf s.heap [] ls (lv_sub hl [0, 1, 2, 3, 4, 5, 6] rfl) hP va_S.rf
section
variable {p : Program} {l : Launch} {e : Env} {s : State} {m : MethodId} {args : Array Value} {below : List Frame} {meth : Method} {c : Code} {D : va_G} {G : G3} {ad : Nat → Nat}
def fX11_worst_s18 (n : Nat)    (st : St) : Option (Int64 × St) := some ((-1), st)
set_option maxHeartbeats 4000000 in
set_option maxRecDepth 100000 in
theorem wX11_worst_s18 (C : Cx p s m args meth c cX11_worst 12 wsL_law RX11 (some .long) D G ad) (n : Nat)      (st : St) (res : (Int64 × St))  (hf : fX11_worst_s18 n    st = some res) : At p l e (rmK 7) s m args below meth c D G ad (MQJ D G ad below args s res) 12 st [] 18 [] := by
  obtain ⟨hx, hb, hml, hown, hts, hr, hlk, hK, had, hSt⟩ := id C
  intro H locs ls hl hP hS
  unfold fX11_worst_s18 at hf
  refine lv_ldc2 hx hb hown (hts _ wm_12_4) dX11_worst_18 ?_
  exact g_lret hx hb hr hlk hP hS dX11_worst_21 hf
def fX11_worst_s62 (n : Nat)    (st : St) : Option (Int64 × St) := some ((-2), st)
set_option maxHeartbeats 4000000 in
set_option maxRecDepth 100000 in
theorem wX11_worst_s62 (C : Cx p s m args meth c cX11_worst 12 wsL_law RX11 (some .long) D G ad) (n : Nat)      (st : St) (res : (Int64 × St))  (hf : fX11_worst_s62 n    st = some res) : At p l e (rmK 7) s m args below meth c D G ad (MQJ D G ad below args s res) 12 st [] 62 [] := by
  obtain ⟨hx, hb, hml, hown, hts, hr, hlk, hK, had, hSt⟩ := id C
  intro H locs ls hl hP hS
  unfold fX11_worst_s62 at hf
  refine lv_ldc2 hx hb hown (hts _ wm_46_2) dX11_worst_62 ?_
  exact g_lret hx hb hr hlk hP hS dX11_worst_65 hf
def fX11_worst_s188 (n : Nat)   (v6 : Int64) (st : St) : Option (Int64 × St) := some (v6, st)
set_option maxHeartbeats 4000000 in
set_option maxRecDepth 100000 in
theorem wX11_worst_s188 (C : Cx p s m args meth c cX11_worst 12 wsL_law RX11 (some .long) D G ad) (n : Nat)   (v6 : Int64)   (st : St) (res : (Int64 × St))  (hf : fX11_worst_s188 n   v6 st = some res) : At p l e (rmK 7) s m args below meth c D G ad (MQJ D G ad below args s res) 12 st [(6, .long v6)] 188 [] := by
  obtain ⟨hx, hb, hml, hown, hts, hr, hlk, hK, had, hSt⟩ := id C
  intro H locs ls hl hP hS
  unfold fX11_worst_s188 at hf
  refine lv_lload hx hb dX11_worst_188 (lv_at hl 0 rfl) ?_
  exact g_lret hx hb hr hlk hP hS dX11_worst_190 hf
def fX11_worst_s183 (n : Nat)   (v3 : Int32) (v6 : Int64) (st : St) : Option (Int64 × St) := fX11_worst_s188 n v6 (setI st 130 75 v3)
set_option maxHeartbeats 4000000 in
set_option maxRecDepth 100000 in
theorem wX11_worst_s183 (C : Cx p s m args meth c cX11_worst 12 wsL_law RX11 (some .long) D G ad) (n : Nat)   (v3 : Int32) (v6 : Int64)   (st : St) (res : (Int64 × St))  (hf : fX11_worst_s183 n   v3 v6 st = some res) : At p l e (rmK 7) s m args below meth c D G ad (MQJ D G ad below args s res) 12 st [(0, .ref (ad 130)), (3, .int v3), (6, .long v6)] 183 [] := by
  obtain ⟨hx, hb, hml, hown, hts, hr, hlk, hK, had, hSt⟩ := id C
  intro H locs ls hl hP hS
  unfold fX11_worst_s183 at hf
  refine lv_aload_n hx hb dX11_worst_183 rfl (lv_at hl 0 rfl) ?_
  refine lv_iload_n hx hb dX11_worst_184 rfl (lv_at hl 1 rfl) ?_
  refine g_putI hx hb hts inlX11 tyX11_ok nmX11 hown hK had hP hS 130 ct_130 rfl 75 (by decide) (hts _ wm_46_4) rfl rfl rfl rfl rfl dX11_worst_185 (fun H locs hP hS => ?_)
  exact wX11_worst_s188 C n v6 (setI st 130 75 v3) res hf H locs ls (lv_sub hl [2] rfl) hP hS
def fX11_worst_s177 (n : Nat) (K94 : Int32 → Int32 → Int32 → Int32 → Int32 → Int64 → Int32 → St → Option (Int64 × St))  (v1 : Int32) (v2 : Int32) (v3 : Int32) (v4 : Int32) (v5 : Int32) (v6 : Int64) (v8 : Int32) (st : St) : Option (Int64 × St) := K94 v1 v2 v3 v4 v5 v6 (v8 + 1) st
set_option maxHeartbeats 4000000 in
set_option maxRecDepth 100000 in
theorem wX11_worst_s177 (C : Cx p s m args meth c cX11_worst 12 wsL_law RX11 (some .long) D G ad) (n : Nat) (K94 : Int32 → Int32 → Int32 → Int32 → Int32 → Int64 → Int32 → St → Option (Int64 × St))  (v1 : Int32) (v2 : Int32) (v3 : Int32) (v4 : Int32) (v5 : Int32) (v6 : Int64) (v8 : Int32)   (st : St) (res : (Int64 × St)) (hK94 : ∀ (v1 : Int32) (v2 : Int32) (v3 : Int32) (v4 : Int32) (v5 : Int32) (v6 : Int64) (v8 : Int32) (st : St), K94 v1 v2 v3 v4 v5 v6 v8 st = some res → At p l e (rmK 7) s m args below meth c D G ad (MQJ D G ad below args s res) 12 st [(0, .ref (ad 130)), (1, .int v1), (2, .int v2), (3, .int v3), (4, .int v4), (5, .int v5), (6, .long v6), (8, .int v8)] 94 []) (hf : fX11_worst_s177 n K94  v1 v2 v3 v4 v5 v6 v8 st = some res) : At p l e (rmK 7) s m args below meth c D G ad (MQJ D G ad below args s res) 12 st [(0, .ref (ad 130)), (1, .int v1), (2, .int v2), (3, .int v3), (4, .int v4), (5, .int v5), (6, .long v6), (8, .int v8)] 177 [] := by
  obtain ⟨hx, hb, hml, hown, hts, hr, hlk, hK, had, hSt⟩ := id C
  intro H locs ls hl hP hS
  unfold fX11_worst_s177 at hf
  refine lv_iinc (v := v8 + 1) (lv' := [(8, .int (v8 + 1)), (0, .ref (ad 130)), (1, .int v1), (2, .int v2), (3, .int v3), (4, .int v4), (5, .int v5), (6, .long v6)]) hx hb dX11_worst_177 hl (k := 7) rfl rfl (by decide) rfl (fun ls hl => ?_)
  refine lv_goto (tgt := 94) hx hb dX11_worst_180 (by decide) ?_
  exact hK94 v1 v2 v3 v4 v5 v6 (v8 + 1)  st hf H locs ls (lv_sub hl [1, 2, 3, 4, 5, 6, 7, 0] rfl) hP hS
def fX11_worst_s171 (n : Nat) (K94 : Int32 → Int32 → Int32 → Int32 → Int32 → Int64 → Int32 → St → Option (Int64 × St)) (K136 : Int32 → Int32 → Int32 → Int32 → Int32 → Int64 → Int32 → Int32 → St → Option (Int64 × St))  (v1 : Int32) (v2 : Int32) (v3 : Int32) (v4 : Int32) (v5 : Int32) (v6 : Int64) (v8 : Int32) (v11 : Int32) (st : St) : Option (Int64 × St) := K136 v1 v2 v3 v4 v5 v6 v8 (v11 + 1) st
set_option maxHeartbeats 4000000 in
set_option maxRecDepth 100000 in
theorem wX11_worst_s171 (C : Cx p s m args meth c cX11_worst 12 wsL_law RX11 (some .long) D G ad) (n : Nat) (K94 : Int32 → Int32 → Int32 → Int32 → Int32 → Int64 → Int32 → St → Option (Int64 × St)) (K136 : Int32 → Int32 → Int32 → Int32 → Int32 → Int64 → Int32 → Int32 → St → Option (Int64 × St))  (v1 : Int32) (v2 : Int32) (v3 : Int32) (v4 : Int32) (v5 : Int32) (v6 : Int64) (v8 : Int32) (v11 : Int32)   (st : St) (res : (Int64 × St)) (hK94 : ∀ (v1 : Int32) (v2 : Int32) (v3 : Int32) (v4 : Int32) (v5 : Int32) (v6 : Int64) (v8 : Int32) (st : St), K94 v1 v2 v3 v4 v5 v6 v8 st = some res → At p l e (rmK 7) s m args below meth c D G ad (MQJ D G ad below args s res) 12 st [(0, .ref (ad 130)), (1, .int v1), (2, .int v2), (3, .int v3), (4, .int v4), (5, .int v5), (6, .long v6), (8, .int v8)] 94 []) (hK136 : ∀ (v1 : Int32) (v2 : Int32) (v3 : Int32) (v4 : Int32) (v5 : Int32) (v6 : Int64) (v8 : Int32) (v11 : Int32) (st : St), K136 v1 v2 v3 v4 v5 v6 v8 v11 st = some res → At p l e (rmK 7) s m args below meth c D G ad (MQJ D G ad below args s res) 12 st [(0, .ref (ad 130)), (1, .int v1), (2, .int v2), (3, .int v3), (4, .int v4), (5, .int v5), (6, .long v6), (8, .int v8), (11, .int v11)] 136 []) (hf : fX11_worst_s171 n K94 K136  v1 v2 v3 v4 v5 v6 v8 v11 st = some res) : At p l e (rmK 7) s m args below meth c D G ad (MQJ D G ad below args s res) 12 st [(0, .ref (ad 130)), (1, .int v1), (2, .int v2), (3, .int v3), (4, .int v4), (5, .int v5), (6, .long v6), (8, .int v8), (11, .int v11)] 171 [] := by
  obtain ⟨hx, hb, hml, hown, hts, hr, hlk, hK, had, hSt⟩ := id C
  intro H locs ls hl hP hS
  unfold fX11_worst_s171 at hf
  refine lv_iinc (v := v11 + 1) (lv' := [(11, .int (v11 + 1)), (0, .ref (ad 130)), (1, .int v1), (2, .int v2), (3, .int v3), (4, .int v4), (5, .int v5), (6, .long v6), (8, .int v8)]) hx hb dX11_worst_171 hl (k := 8) rfl rfl (by decide) rfl (fun ls hl => ?_)
  refine lv_goto (tgt := 136) hx hb dX11_worst_174 (by decide) ?_
  exact hK136 v1 v2 v3 v4 v5 v6 v8 (v11 + 1)  st hf H locs ls (lv_sub hl [1, 2, 3, 4, 5, 6, 7, 8, 0] rfl) hP hS
def fX11_worst_s170 (n : Nat) (K94 : Int32 → Int32 → Int32 → Int32 → Int32 → Int64 → Int32 → St → Option (Int64 × St)) (K136 : Int32 → Int32 → Int32 → Int32 → Int32 → Int64 → Int32 → Int32 → St → Option (Int64 × St))  (v1 : Int32) (v2 : Int32) (v3 : Int32) (v4 : Int32) (v5 : Int32) (v6 : Int64) (v8 : Int32) (v11 : Int32) (k1 : Int32) (k2 : Int32) (st : St) : Option (Int64 × St) := if inb k1 6 = true then (fX11_worst_s171 n K94 K136 v1 v2 v3 v4 v5 v6 v8 v11 (setI st 176 k1.toNatClampNeg k2)) else none
set_option maxHeartbeats 4000000 in
set_option maxRecDepth 100000 in
theorem wX11_worst_s170 (C : Cx p s m args meth c cX11_worst 12 wsL_law RX11 (some .long) D G ad) (n : Nat) (K94 : Int32 → Int32 → Int32 → Int32 → Int32 → Int64 → Int32 → St → Option (Int64 × St)) (K136 : Int32 → Int32 → Int32 → Int32 → Int32 → Int64 → Int32 → Int32 → St → Option (Int64 × St))  (v1 : Int32) (v2 : Int32) (v3 : Int32) (v4 : Int32) (v5 : Int32) (v6 : Int64) (v8 : Int32) (v11 : Int32) (k1 : Int32) (k2 : Int32)   (st : St) (res : (Int64 × St)) (hK94 : ∀ (v1 : Int32) (v2 : Int32) (v3 : Int32) (v4 : Int32) (v5 : Int32) (v6 : Int64) (v8 : Int32) (st : St), K94 v1 v2 v3 v4 v5 v6 v8 st = some res → At p l e (rmK 7) s m args below meth c D G ad (MQJ D G ad below args s res) 12 st [(0, .ref (ad 130)), (1, .int v1), (2, .int v2), (3, .int v3), (4, .int v4), (5, .int v5), (6, .long v6), (8, .int v8)] 94 []) (hK136 : ∀ (v1 : Int32) (v2 : Int32) (v3 : Int32) (v4 : Int32) (v5 : Int32) (v6 : Int64) (v8 : Int32) (v11 : Int32) (st : St), K136 v1 v2 v3 v4 v5 v6 v8 v11 st = some res → At p l e (rmK 7) s m args below meth c D G ad (MQJ D G ad below args s res) 12 st [(0, .ref (ad 130)), (1, .int v1), (2, .int v2), (3, .int v3), (4, .int v4), (5, .int v5), (6, .long v6), (8, .int v8), (11, .int v11)] 136 []) (hf : fX11_worst_s170 n K94 K136  v1 v2 v3 v4 v5 v6 v8 v11 k1 k2 st = some res) : At p l e (rmK 7) s m args below meth c D G ad (MQJ D G ad below args s res) 12 st [(0, .ref (ad 130)), (1, .int v1), (2, .int v2), (3, .int v3), (4, .int v4), (5, .int v5), (6, .long v6), (8, .int v8), (11, .int v11)] 170 [.int k2, .int k1, .ref (ad 176)] := by
  obtain ⟨hx, hb, hml, hown, hts, hr, hlk, hK, had, hSt⟩ := id C
  intro H locs ls hl hP hS
  unfold fX11_worst_s170 at hf
  obtain ⟨g1, hf⟩ := gd hf
  refine g_iast hx hb hK had hP hS 176 ct_176 g1 dX11_worst_170 (fun H locs hP hS => ?_)
  exact wX11_worst_s171 C n K94 K136 v1 v2 v3 v4 v5 v6 v8 v11 (setI st 176 k1.toNatClampNeg k2) res hK94 hK136 hf H locs ls (lv_sub hl [0, 1, 2, 3, 4, 5, 6, 7, 8] rfl) hP hS
def fX11_worst_s168 (n : Nat) (K94 : Int32 → Int32 → Int32 → Int32 → Int32 → Int64 → Int32 → St → Option (Int64 × St)) (K136 : Int32 → Int32 → Int32 → Int32 → Int32 → Int64 → Int32 → Int32 → St → Option (Int64 × St))  (v1 : Int32) (v2 : Int32) (v3 : Int32) (v4 : Int32) (v5 : Int32) (v6 : Int64) (v8 : Int32) (v11 : Int32) (k1 : Int32) (st : St) : Option (Int64 × St) := fX11_worst_s170 n K94 K136 v1 v2 v3 v4 v5 v6 v8 v11 k1 v4 st
set_option maxHeartbeats 4000000 in
set_option maxRecDepth 100000 in
theorem wX11_worst_s168 (C : Cx p s m args meth c cX11_worst 12 wsL_law RX11 (some .long) D G ad) (n : Nat) (K94 : Int32 → Int32 → Int32 → Int32 → Int32 → Int64 → Int32 → St → Option (Int64 × St)) (K136 : Int32 → Int32 → Int32 → Int32 → Int32 → Int64 → Int32 → Int32 → St → Option (Int64 × St))  (v1 : Int32) (v2 : Int32) (v3 : Int32) (v4 : Int32) (v5 : Int32) (v6 : Int64) (v8 : Int32) (v11 : Int32) (k1 : Int32)   (st : St) (res : (Int64 × St)) (hK94 : ∀ (v1 : Int32) (v2 : Int32) (v3 : Int32) (v4 : Int32) (v5 : Int32) (v6 : Int64) (v8 : Int32) (st : St), K94 v1 v2 v3 v4 v5 v6 v8 st = some res → At p l e (rmK 7) s m args below meth c D G ad (MQJ D G ad below args s res) 12 st [(0, .ref (ad 130)), (1, .int v1), (2, .int v2), (3, .int v3), (4, .int v4), (5, .int v5), (6, .long v6), (8, .int v8)] 94 []) (hK136 : ∀ (v1 : Int32) (v2 : Int32) (v3 : Int32) (v4 : Int32) (v5 : Int32) (v6 : Int64) (v8 : Int32) (v11 : Int32) (st : St), K136 v1 v2 v3 v4 v5 v6 v8 v11 st = some res → At p l e (rmK 7) s m args below meth c D G ad (MQJ D G ad below args s res) 12 st [(0, .ref (ad 130)), (1, .int v1), (2, .int v2), (3, .int v3), (4, .int v4), (5, .int v5), (6, .long v6), (8, .int v8), (11, .int v11)] 136 []) (hf : fX11_worst_s168 n K94 K136  v1 v2 v3 v4 v5 v6 v8 v11 k1 st = some res) : At p l e (rmK 7) s m args below meth c D G ad (MQJ D G ad below args s res) 12 st [(0, .ref (ad 130)), (1, .int v1), (2, .int v2), (3, .int v3), (4, .int v4), (5, .int v5), (6, .long v6), (8, .int v8), (11, .int v11)] 168 [.int k1, .ref (ad 176)] := by
  obtain ⟨hx, hb, hml, hown, hts, hr, hlk, hK, had, hSt⟩ := id C
  intro H locs ls hl hP hS
  unfold fX11_worst_s168 at hf
  refine lv_iload hx hb dX11_worst_168 (lv_at hl 4 rfl) ?_
  exact wX11_worst_s170 C n K94 K136 v1 v2 v3 v4 v5 v6 v8 v11 k1 v4 st res hK94 hK136 hf H locs ls (lv_sub hl [0, 1, 2, 3, 4, 5, 6, 7, 8] rfl) hP hS
def fX11_worst_s163 (n : Nat) (K94 : Int32 → Int32 → Int32 → Int32 → Int32 → Int64 → Int32 → St → Option (Int64 × St)) (K136 : Int32 → Int32 → Int32 → Int32 → Int32 → Int64 → Int32 → Int32 → St → Option (Int64 × St))  (v1 : Int32) (v2 : Int32) (v3 : Int32) (v4 : Int32) (v5 : Int32) (v6 : Int64) (v8 : Int32) (v11 : Int32) (k1 : Int32) (st : St) : Option (Int64 × St) := fX11_worst_s170 n K94 K136 v1 v2 v3 v4 v5 v6 v8 v11 k1 v5 st
set_option maxHeartbeats 4000000 in
set_option maxRecDepth 100000 in
theorem wX11_worst_s163 (C : Cx p s m args meth c cX11_worst 12 wsL_law RX11 (some .long) D G ad) (n : Nat) (K94 : Int32 → Int32 → Int32 → Int32 → Int32 → Int64 → Int32 → St → Option (Int64 × St)) (K136 : Int32 → Int32 → Int32 → Int32 → Int32 → Int64 → Int32 → Int32 → St → Option (Int64 × St))  (v1 : Int32) (v2 : Int32) (v3 : Int32) (v4 : Int32) (v5 : Int32) (v6 : Int64) (v8 : Int32) (v11 : Int32) (k1 : Int32)   (st : St) (res : (Int64 × St)) (hK94 : ∀ (v1 : Int32) (v2 : Int32) (v3 : Int32) (v4 : Int32) (v5 : Int32) (v6 : Int64) (v8 : Int32) (st : St), K94 v1 v2 v3 v4 v5 v6 v8 st = some res → At p l e (rmK 7) s m args below meth c D G ad (MQJ D G ad below args s res) 12 st [(0, .ref (ad 130)), (1, .int v1), (2, .int v2), (3, .int v3), (4, .int v4), (5, .int v5), (6, .long v6), (8, .int v8)] 94 []) (hK136 : ∀ (v1 : Int32) (v2 : Int32) (v3 : Int32) (v4 : Int32) (v5 : Int32) (v6 : Int64) (v8 : Int32) (v11 : Int32) (st : St), K136 v1 v2 v3 v4 v5 v6 v8 v11 st = some res → At p l e (rmK 7) s m args below meth c D G ad (MQJ D G ad below args s res) 12 st [(0, .ref (ad 130)), (1, .int v1), (2, .int v2), (3, .int v3), (4, .int v4), (5, .int v5), (6, .long v6), (8, .int v8), (11, .int v11)] 136 []) (hf : fX11_worst_s163 n K94 K136  v1 v2 v3 v4 v5 v6 v8 v11 k1 st = some res) : At p l e (rmK 7) s m args below meth c D G ad (MQJ D G ad below args s res) 12 st [(0, .ref (ad 130)), (1, .int v1), (2, .int v2), (3, .int v3), (4, .int v4), (5, .int v5), (6, .long v6), (8, .int v8), (11, .int v11)] 163 [.int k1, .ref (ad 176)] := by
  obtain ⟨hx, hb, hml, hown, hts, hr, hlk, hK, had, hSt⟩ := id C
  intro H locs ls hl hP hS
  unfold fX11_worst_s163 at hf
  refine lv_iload hx hb dX11_worst_163 (lv_at hl 5 rfl) ?_
  refine lv_goto (tgt := 170) hx hb dX11_worst_165 (by decide) ?_
  exact wX11_worst_s170 C n K94 K136 v1 v2 v3 v4 v5 v6 v8 v11 k1 v5 st res hK94 hK136 hf H locs ls (lv_sub hl [0, 1, 2, 3, 4, 5, 6, 7, 8] rfl) hP hS
def fX11_worst_s142 (n : Nat) (K94 : Int32 → Int32 → Int32 → Int32 → Int32 → Int64 → Int32 → St → Option (Int64 × St)) (K136 : Int32 → Int32 → Int32 → Int32 → Int32 → Int64 → Int32 → Int32 → St → Option (Int64 × St))  (v1 : Int32) (v2 : Int32) (v3 : Int32) (v4 : Int32) (v5 : Int32) (v6 : Int64) (v8 : Int32) (v11 : Int32) (st : St) : Option (Int64 × St) := if ((v8 >>> (((v3 - 1) - v11) &&& 31)) &&& 1) = 1 then fX11_worst_s163 n K94 K136 v1 v2 v3 v4 v5 v6 v8 v11 v11 st else fX11_worst_s168 n K94 K136 v1 v2 v3 v4 v5 v6 v8 v11 v11 st
set_option maxHeartbeats 4000000 in
set_option maxRecDepth 100000 in
theorem wX11_worst_s142 (C : Cx p s m args meth c cX11_worst 12 wsL_law RX11 (some .long) D G ad) (n : Nat) (K94 : Int32 → Int32 → Int32 → Int32 → Int32 → Int64 → Int32 → St → Option (Int64 × St)) (K136 : Int32 → Int32 → Int32 → Int32 → Int32 → Int64 → Int32 → Int32 → St → Option (Int64 × St))  (v1 : Int32) (v2 : Int32) (v3 : Int32) (v4 : Int32) (v5 : Int32) (v6 : Int64) (v8 : Int32) (v11 : Int32)   (st : St) (res : (Int64 × St)) (hK94 : ∀ (v1 : Int32) (v2 : Int32) (v3 : Int32) (v4 : Int32) (v5 : Int32) (v6 : Int64) (v8 : Int32) (st : St), K94 v1 v2 v3 v4 v5 v6 v8 st = some res → At p l e (rmK 7) s m args below meth c D G ad (MQJ D G ad below args s res) 12 st [(0, .ref (ad 130)), (1, .int v1), (2, .int v2), (3, .int v3), (4, .int v4), (5, .int v5), (6, .long v6), (8, .int v8)] 94 []) (hK136 : ∀ (v1 : Int32) (v2 : Int32) (v3 : Int32) (v4 : Int32) (v5 : Int32) (v6 : Int64) (v8 : Int32) (v11 : Int32) (st : St), K136 v1 v2 v3 v4 v5 v6 v8 v11 st = some res → At p l e (rmK 7) s m args below meth c D G ad (MQJ D G ad below args s res) 12 st [(0, .ref (ad 130)), (1, .int v1), (2, .int v2), (3, .int v3), (4, .int v4), (5, .int v5), (6, .long v6), (8, .int v8), (11, .int v11)] 136 []) (hf : fX11_worst_s142 n K94 K136  v1 v2 v3 v4 v5 v6 v8 v11 st = some res) : At p l e (rmK 7) s m args below meth c D G ad (MQJ D G ad below args s res) 12 st [(0, .ref (ad 130)), (1, .int v1), (2, .int v2), (3, .int v3), (4, .int v4), (5, .int v5), (6, .long v6), (8, .int v8), (11, .int v11)] 142 [] := by
  obtain ⟨hx, hb, hml, hown, hts, hr, hlk, hK, had, hSt⟩ := id C
  intro H locs ls hl hP hS
  unfold fX11_worst_s142 at hf
  refine lv_aload_n hx hb dX11_worst_142 rfl (lv_at hl 0 rfl) ?_
  refine g_getR hx hb hts inlX11 hown hK hP 130 ct_130 rfl 74 (by decide) (hts _ wm_9_4) rfl dX11_worst_143 ?_
  refine lv_iload hx hb dX11_worst_146 (lv_at hl 8 rfl) ?_
  refine lv_iload hx hb dX11_worst_148 (lv_at hl 7 rfl) ?_
  refine lv_iload_n hx hb dX11_worst_150 rfl (lv_at hl 3 rfl) ?_
  refine lv_iconst (v := 1) hx hb dX11_worst_151 (by decide) ?_
  refine lv_isub hx hb dX11_worst_152 ?_
  refine lv_iload hx hb dX11_worst_153 (lv_at hl 8 rfl) ?_
  refine lv_isub hx hb dX11_worst_155 ?_
  refine lv_ishr hx hb dX11_worst_156 ?_
  refine lv_iconst (v := 1) hx hb dX11_worst_157 (by decide) ?_
  refine lv_iand hx hb dX11_worst_158 ?_
  refine lv_iconst (v := 1) hx hb dX11_worst_159 (by decide) ?_
  refine lv_icmp_ne (tgt := 168) hx hb dX11_worst_160 (by decide) (fun q => ?_) (fun q => ?_)
  · exact wX11_worst_s168 C n K94 K136 v1 v2 v3 v4 v5 v6 v8 v11 v11 st res hK94 hK136 (ie hf q) H locs ls (lv_sub hl [0, 1, 2, 3, 4, 5, 6, 7, 8] rfl) hP hS
  · exact wX11_worst_s163 C n K94 K136 v1 v2 v3 v4 v5 v6 v8 v11 v11 st res hK94 hK136 (it hf q) H locs ls (lv_sub hl [0, 1, 2, 3, 4, 5, 6, 7, 8] rfl) hP hS
def fX11_worst_s136 (n : Nat) (K94 : Int32 → Int32 → Int32 → Int32 → Int32 → Int64 → Int32 → St → Option (Int64 × St)) (K136 : Int32 → Int32 → Int32 → Int32 → Int32 → Int64 → Int32 → Int32 → St → Option (Int64 × St))  (v1 : Int32) (v2 : Int32) (v3 : Int32) (v4 : Int32) (v5 : Int32) (v6 : Int64) (v8 : Int32) (v11 : Int32) (st : St) : Option (Int64 × St) := if v3 ≤ v11 then fX11_worst_s177 n K94 v1 v2 v3 v4 v5 v6 v8 st else fX11_worst_s142 n K94 K136 v1 v2 v3 v4 v5 v6 v8 v11 st
set_option maxHeartbeats 4000000 in
set_option maxRecDepth 100000 in
theorem wX11_worst_s136 (C : Cx p s m args meth c cX11_worst 12 wsL_law RX11 (some .long) D G ad) (n : Nat) (K94 : Int32 → Int32 → Int32 → Int32 → Int32 → Int64 → Int32 → St → Option (Int64 × St)) (K136 : Int32 → Int32 → Int32 → Int32 → Int32 → Int64 → Int32 → Int32 → St → Option (Int64 × St))  (v1 : Int32) (v2 : Int32) (v3 : Int32) (v4 : Int32) (v5 : Int32) (v6 : Int64) (v8 : Int32) (v11 : Int32)   (st : St) (res : (Int64 × St)) (hK94 : ∀ (v1 : Int32) (v2 : Int32) (v3 : Int32) (v4 : Int32) (v5 : Int32) (v6 : Int64) (v8 : Int32) (st : St), K94 v1 v2 v3 v4 v5 v6 v8 st = some res → At p l e (rmK 7) s m args below meth c D G ad (MQJ D G ad below args s res) 12 st [(0, .ref (ad 130)), (1, .int v1), (2, .int v2), (3, .int v3), (4, .int v4), (5, .int v5), (6, .long v6), (8, .int v8)] 94 []) (hK136 : ∀ (v1 : Int32) (v2 : Int32) (v3 : Int32) (v4 : Int32) (v5 : Int32) (v6 : Int64) (v8 : Int32) (v11 : Int32) (st : St), K136 v1 v2 v3 v4 v5 v6 v8 v11 st = some res → At p l e (rmK 7) s m args below meth c D G ad (MQJ D G ad below args s res) 12 st [(0, .ref (ad 130)), (1, .int v1), (2, .int v2), (3, .int v3), (4, .int v4), (5, .int v5), (6, .long v6), (8, .int v8), (11, .int v11)] 136 []) (hf : fX11_worst_s136 n K94 K136  v1 v2 v3 v4 v5 v6 v8 v11 st = some res) : At p l e (rmK 7) s m args below meth c D G ad (MQJ D G ad below args s res) 12 st [(0, .ref (ad 130)), (1, .int v1), (2, .int v2), (3, .int v3), (4, .int v4), (5, .int v5), (6, .long v6), (8, .int v8), (11, .int v11)] 136 [] := by
  obtain ⟨hx, hb, hml, hown, hts, hr, hlk, hK, had, hSt⟩ := id C
  intro H locs ls hl hP hS
  unfold fX11_worst_s136 at hf
  refine lv_iload hx hb dX11_worst_136 (lv_at hl 8 rfl) ?_
  refine lv_iload_n hx hb dX11_worst_138 rfl (lv_at hl 3 rfl) ?_
  refine lv_icmp_ge (tgt := 177) hx hb dX11_worst_139 (by decide) (fun q => ?_) (fun q => ?_)
  · exact wX11_worst_s177 C n K94 v1 v2 v3 v4 v5 v6 v8 st res hK94 (it hf q) H locs ls (lv_sub hl [0, 1, 2, 3, 4, 5, 6, 7] rfl) hP hS
  · exact wX11_worst_s142 C n K94 K136 v1 v2 v3 v4 v5 v6 v8 v11 st res hK94 hK136 (ie hf q) H locs ls (lv_sub hl [0, 1, 2, 3, 4, 5, 6, 7, 8] rfl) hP hS
def fX11_worst_L136 (n : Nat) (K94 : Int32 → Int32 → Int32 → Int32 → Int32 → Int64 → Int32 → St → Option (Int64 × St))  : Nat → Int32 → Int32 → Int32 → Int32 → Int32 → Int64 → Int32 → Int32 → St → Option (Int64 × St)
  | 0, _, _, _, _, _, _, _, _, _ => none
  | k + 1, v1, v2, v3, v4, v5, v6, v8, v11, st => fX11_worst_s136 n K94 (fX11_worst_L136 n K94 k)  v1 v2 v3 v4 v5 v6 v8 v11 st
theorem wX11_worst_L136 (C : Cx p s m args meth c cX11_worst 12 wsL_law RX11 (some .long) D G ad) (n : Nat) (K94 : Int32 → Int32 → Int32 → Int32 → Int32 → Int64 → Int32 → St → Option (Int64 × St))   (res : (Int64 × St)) (hK94 : ∀ (v1 : Int32) (v2 : Int32) (v3 : Int32) (v4 : Int32) (v5 : Int32) (v6 : Int64) (v8 : Int32) (st : St), K94 v1 v2 v3 v4 v5 v6 v8 st = some res → At p l e (rmK 7) s m args below meth c D G ad (MQJ D G ad below args s res) 12 st [(0, .ref (ad 130)), (1, .int v1), (2, .int v2), (3, .int v3), (4, .int v4), (5, .int v5), (6, .long v6), (8, .int v8)] 94 []) : ∀ (k : Nat) (v1 : Int32) (v2 : Int32) (v3 : Int32) (v4 : Int32) (v5 : Int32) (v6 : Int64) (v8 : Int32) (v11 : Int32)  (st : St), fX11_worst_L136 n K94 k v1 v2 v3 v4 v5 v6 v8 v11 st = some res → At p l e (rmK 7) s m args below meth c D G ad (MQJ D G ad below args s res) 12 st [(0, .ref (ad 130)), (1, .int v1), (2, .int v2), (3, .int v3), (4, .int v4), (5, .int v5), (6, .long v6), (8, .int v8), (11, .int v11)] 136 [] := by
  intro k
  induction k with
  | zero => intro v1 v2 v3 v4 v5 v6 v8 v11  st h; exact absurd h (by intro q; cases q)
  | succ k ih => intro v1 v2 v3 v4 v5 v6 v8 v11  st h; exact wX11_worst_s136 C n K94 (fX11_worst_L136 n K94 k)  v1 v2 v3 v4 v5 v6 v8 v11   st res hK94 ih h
def fX11_worst_s129 (n : Nat) (K94 : Int32 → Int32 → Int32 → Int32 → Int32 → Int64 → Int32 → St → Option (Int64 × St))  (v1 : Int32) (v2 : Int32) (v3 : Int32) (v4 : Int32) (v5 : Int32) (v8 : Int32) (v9 : Int64) (st : St) : Option (Int64 × St) := fX11_worst_L136 n K94 n v1 v2 v3 v4 v5 v9 v8 0 st
set_option maxHeartbeats 4000000 in
set_option maxRecDepth 100000 in
theorem wX11_worst_s129 (C : Cx p s m args meth c cX11_worst 12 wsL_law RX11 (some .long) D G ad) (n : Nat) (K94 : Int32 → Int32 → Int32 → Int32 → Int32 → Int64 → Int32 → St → Option (Int64 × St))  (v1 : Int32) (v2 : Int32) (v3 : Int32) (v4 : Int32) (v5 : Int32) (v8 : Int32) (v9 : Int64)   (st : St) (res : (Int64 × St)) (hK94 : ∀ (v1 : Int32) (v2 : Int32) (v3 : Int32) (v4 : Int32) (v5 : Int32) (v6 : Int64) (v8 : Int32) (st : St), K94 v1 v2 v3 v4 v5 v6 v8 st = some res → At p l e (rmK 7) s m args below meth c D G ad (MQJ D G ad below args s res) 12 st [(0, .ref (ad 130)), (1, .int v1), (2, .int v2), (3, .int v3), (4, .int v4), (5, .int v5), (6, .long v6), (8, .int v8)] 94 []) (hf : fX11_worst_s129 n K94  v1 v2 v3 v4 v5 v8 v9 st = some res) : At p l e (rmK 7) s m args below meth c D G ad (MQJ D G ad below args s res) 12 st [(0, .ref (ad 130)), (1, .int v1), (2, .int v2), (3, .int v3), (4, .int v4), (5, .int v5), (8, .int v8), (9, .long v9)] 129 [] := by
  obtain ⟨hx, hb, hml, hown, hts, hr, hlk, hK, had, hSt⟩ := id C
  intro H locs ls hl hP hS
  unfold fX11_worst_s129 at hf
  refine lv_lload hx hb dX11_worst_129 (lv_at hl 7 rfl) ?_
  refine lv_lstore (lv' := [(6, .long v9), (0, .ref (ad 130)), (1, .int v1), (2, .int v2), (3, .int v3), (4, .int v4), (5, .int v5), (8, .int v8), (9, .long v9)]) hx hb dX11_worst_131 hl (by decide) rfl (fun ls hl => ?_)
  refine lv_iconst (v := 0) hx hb dX11_worst_133 (by decide) ?_
  refine lv_istore (lv' := [(11, .int 0), (6, .long v9), (0, .ref (ad 130)), (1, .int v1), (2, .int v2), (3, .int v3), (4, .int v4), (5, .int v5), (8, .int v8), (9, .long v9)]) hx hb dX11_worst_134 hl (by decide) rfl (fun ls hl => ?_)
  exact wX11_worst_L136 C n K94 res hK94 n v1 v2 v3 v4 v5 v9 v8 0 st hf H locs ls (lv_sub hl [2, 3, 4, 5, 6, 7, 1, 8, 0] rfl) hP hS
def fX11_worst_s121 (n : Nat) (K94 : Int32 → Int32 → Int32 → Int32 → Int32 → Int64 → Int32 → St → Option (Int64 × St))  (v1 : Int32) (v2 : Int32) (v3 : Int32) (v4 : Int32) (v5 : Int32) (v6 : Int64) (v8 : Int32) (v9 : Int64) (st : St) : Option (Int64 × St) := if v9 ≤ v6 then fX11_worst_s177 n K94 v1 v2 v3 v4 v5 v6 v8 st else fX11_worst_s129 n K94 v1 v2 v3 v4 v5 v8 v9 st
set_option maxHeartbeats 4000000 in
set_option maxRecDepth 100000 in
theorem wX11_worst_s121 (C : Cx p s m args meth c cX11_worst 12 wsL_law RX11 (some .long) D G ad) (n : Nat) (K94 : Int32 → Int32 → Int32 → Int32 → Int32 → Int64 → Int32 → St → Option (Int64 × St))  (v1 : Int32) (v2 : Int32) (v3 : Int32) (v4 : Int32) (v5 : Int32) (v6 : Int64) (v8 : Int32) (v9 : Int64)   (st : St) (res : (Int64 × St)) (hK94 : ∀ (v1 : Int32) (v2 : Int32) (v3 : Int32) (v4 : Int32) (v5 : Int32) (v6 : Int64) (v8 : Int32) (st : St), K94 v1 v2 v3 v4 v5 v6 v8 st = some res → At p l e (rmK 7) s m args below meth c D G ad (MQJ D G ad below args s res) 12 st [(0, .ref (ad 130)), (1, .int v1), (2, .int v2), (3, .int v3), (4, .int v4), (5, .int v5), (6, .long v6), (8, .int v8)] 94 []) (hf : fX11_worst_s121 n K94  v1 v2 v3 v4 v5 v6 v8 v9 st = some res) : At p l e (rmK 7) s m args below meth c D G ad (MQJ D G ad below args s res) 12 st [(0, .ref (ad 130)), (1, .int v1), (2, .int v2), (3, .int v3), (4, .int v4), (5, .int v5), (6, .long v6), (8, .int v8), (9, .long v9)] 121 [] := by
  obtain ⟨hx, hb, hml, hown, hts, hr, hlk, hK, had, hSt⟩ := id C
  intro H locs ls hl hP hS
  unfold fX11_worst_s121 at hf
  refine lv_lload hx hb dX11_worst_121 (lv_at hl 8 rfl) ?_
  refine lv_lload hx hb dX11_worst_123 (lv_at hl 6 rfl) ?_
  refine g_lcmp_le (tgt := 177) hx hb dX11_worst_125 dX11_worst_126 (by decide) (fun q => ?_) (fun q => ?_)
  · exact wX11_worst_s177 C n K94 v1 v2 v3 v4 v5 v6 v8 st res hK94 (it hf q) H locs ls (lv_sub hl [0, 1, 2, 3, 4, 5, 6, 7] rfl) hP hS
  · exact wX11_worst_s129 C n K94 v1 v2 v3 v4 v5 v8 v9 st res hK94 (ie hf q) H locs ls (lv_sub hl [0, 1, 2, 3, 4, 5, 7, 8] rfl) hP hS
def fX11_worst_s115 (n : Nat) (K94 : Int32 → Int32 → Int32 → Int32 → Int32 → Int64 → Int32 → St → Option (Int64 × St))  (v1 : Int32) (v2 : Int32) (v3 : Int32) (v4 : Int32) (v5 : Int32) (v6 : Int64) (v8 : Int32) (k0 : Int64) (st : St) : Option (Int64 × St) := (fX11_lays n st).bind (fun q => fX11_worst_s121 n K94 v1 v2 v3 v4 v5 v6 v8 k0 q.2)
set_option maxHeartbeats 4000000 in
set_option maxRecDepth 100000 in
theorem wX11_worst_s115 (C : Cx p s m args meth c cX11_worst 12 wsL_law RX11 (some .long) D G ad) (n : Nat) (K94 : Int32 → Int32 → Int32 → Int32 → Int32 → Int64 → Int32 → St → Option (Int64 × St))  (v1 : Int32) (v2 : Int32) (v3 : Int32) (v4 : Int32) (v5 : Int32) (v6 : Int64) (v8 : Int32) (k0 : Int64)   (st : St) (res : (Int64 × St)) (hK94 : ∀ (v1 : Int32) (v2 : Int32) (v3 : Int32) (v4 : Int32) (v5 : Int32) (v6 : Int64) (v8 : Int32) (st : St), K94 v1 v2 v3 v4 v5 v6 v8 st = some res → At p l e (rmK 7) s m args below meth c D G ad (MQJ D G ad below args s res) 12 st [(0, .ref (ad 130)), (1, .int v1), (2, .int v2), (3, .int v3), (4, .int v4), (5, .int v5), (6, .long v6), (8, .int v8)] 94 []) (hf : fX11_worst_s115 n K94  v1 v2 v3 v4 v5 v6 v8 k0 st = some res) : At p l e (rmK 7) s m args below meth c D G ad (MQJ D G ad below args s res) 12 st [(0, .ref (ad 130)), (1, .int v1), (2, .int v2), (3, .int v3), (4, .int v4), (5, .int v5), (6, .long v6), (8, .int v8)] 115 [.long k0] := by
  obtain ⟨hx, hb, hml, hown, hts, hr, hlk, hK, had, hSt⟩ := id C
  intro H locs ls hl hP hS
  unfold fX11_worst_s115 at hf
  refine lv_lstore (lv' := [(9, .long k0), (0, .ref (ad 130)), (1, .int v1), (2, .int v2), (3, .int v3), (4, .int v4), (5, .int v5), (6, .long v6), (8, .int v8)]) hx hb dX11_worst_115 hl (by decide) rfl (fun ls hl => ?_)
  refine lv_aload_n hx hb dX11_worst_117 rfl (lv_at hl 1 rfl) ?_
  obtain ⟨q, hq, hf⟩ := bd hf
  refine gcV_v (k := 0) (o := 130) (As := []) (rest := []) hx hb hml hown hts hK hSt hP hS hl.1 (goodV wm_46_13 wm_46_14 wm_46_15 wm_1_5 wm_46_16) okX11_lays ct_130 rfl rfl (Nat.le_of_ble_eq_true rfl) (Nat.le_of_ble_eq_true rfl) rfl rfl (Nat.le_of_ble_eq_true rfl) dX11_worst_118 (kX11_lays l D G ad had n   st q hq) (fun H locs hP hS => ?_)
  exact wX11_worst_s121 C n K94 v1 v2 v3 v4 v5 v6 v8 k0 q.2 res hK94 hf H locs ls (lv_sub hl [1, 2, 3, 4, 5, 6, 7, 8, 0] rfl) hP hS
def fX11_worst_s102 (n : Nat) (K94 : Int32 → Int32 → Int32 → Int32 → Int32 → Int64 → Int32 → St → Option (Int64 × St))  (v1 : Int32) (v2 : Int32) (v3 : Int32) (v4 : Int32) (v5 : Int32) (v6 : Int64) (v8 : Int32) (st : St) : Option (Int64 × St) := (fX11_tries n v1 v2 v3 v8 v4 v5 st).bind (fun q => fX11_worst_s115 n K94 v1 v2 v3 v4 v5 v6 v8 q.1 q.2)
set_option maxHeartbeats 4000000 in
set_option maxRecDepth 100000 in
theorem wX11_worst_s102 (C : Cx p s m args meth c cX11_worst 12 wsL_law RX11 (some .long) D G ad) (n : Nat) (K94 : Int32 → Int32 → Int32 → Int32 → Int32 → Int64 → Int32 → St → Option (Int64 × St))  (v1 : Int32) (v2 : Int32) (v3 : Int32) (v4 : Int32) (v5 : Int32) (v6 : Int64) (v8 : Int32)   (st : St) (res : (Int64 × St)) (hK94 : ∀ (v1 : Int32) (v2 : Int32) (v3 : Int32) (v4 : Int32) (v5 : Int32) (v6 : Int64) (v8 : Int32) (st : St), K94 v1 v2 v3 v4 v5 v6 v8 st = some res → At p l e (rmK 7) s m args below meth c D G ad (MQJ D G ad below args s res) 12 st [(0, .ref (ad 130)), (1, .int v1), (2, .int v2), (3, .int v3), (4, .int v4), (5, .int v5), (6, .long v6), (8, .int v8)] 94 []) (hf : fX11_worst_s102 n K94  v1 v2 v3 v4 v5 v6 v8 st = some res) : At p l e (rmK 7) s m args below meth c D G ad (MQJ D G ad below args s res) 12 st [(0, .ref (ad 130)), (1, .int v1), (2, .int v2), (3, .int v3), (4, .int v4), (5, .int v5), (6, .long v6), (8, .int v8)] 102 [] := by
  obtain ⟨hx, hb, hml, hown, hts, hr, hlk, hK, had, hSt⟩ := id C
  intro H locs ls hl hP hS
  unfold fX11_worst_s102 at hf
  refine lv_aload_n hx hb dX11_worst_102 rfl (lv_at hl 0 rfl) ?_
  refine lv_iload_n hx hb dX11_worst_103 rfl (lv_at hl 1 rfl) ?_
  refine lv_iload_n hx hb dX11_worst_104 rfl (lv_at hl 2 rfl) ?_
  refine lv_iload_n hx hb dX11_worst_105 rfl (lv_at hl 3 rfl) ?_
  refine lv_iload hx hb dX11_worst_106 (lv_at hl 7 rfl) ?_
  refine lv_iload hx hb dX11_worst_108 (lv_at hl 4 rfl) ?_
  refine lv_iload hx hb dX11_worst_110 (lv_at hl 5 rfl) ?_
  obtain ⟨q, hq, hf⟩ := bd hf
  refine gcV_j (k := 6) (o := 130) (As := [.int v1, .int v2, .int v3, .int v8, .int v4, .int v5]) (rest := []) hx hb hml hown hts hK hSt hP hS hl.1 (goodV wm_46_9 wm_46_10 wm_46_11 wm_1_5 wm_46_12) okX11_tries ct_130 rfl rfl (Nat.le_of_ble_eq_true rfl) (Nat.le_of_ble_eq_true rfl) rfl rfl (Nat.le_of_ble_eq_true rfl) dX11_worst_112 (kX11_tries l D G ad had n  v1 v2 v3 v8 v4 v5 st q hq) (fun H locs hP hS => ?_)
  exact wX11_worst_s115 C n K94 v1 v2 v3 v4 v5 v6 v8 q.1 q.2 res hK94 hf H locs ls (lv_sub hl [0, 1, 2, 3, 4, 5, 6, 7] rfl) hP hS
def fX11_worst_s94 (n : Nat) (K94 : Int32 → Int32 → Int32 → Int32 → Int32 → Int64 → Int32 → St → Option (Int64 × St))  (v1 : Int32) (v2 : Int32) (v3 : Int32) (v4 : Int32) (v5 : Int32) (v6 : Int64) (v8 : Int32) (st : St) : Option (Int64 × St) := if (1 <<< (v3 &&& 31)) ≤ v8 then fX11_worst_s183 n v3 v6 st else fX11_worst_s102 n K94 v1 v2 v3 v4 v5 v6 v8 st
set_option maxHeartbeats 4000000 in
set_option maxRecDepth 100000 in
theorem wX11_worst_s94 (C : Cx p s m args meth c cX11_worst 12 wsL_law RX11 (some .long) D G ad) (n : Nat) (K94 : Int32 → Int32 → Int32 → Int32 → Int32 → Int64 → Int32 → St → Option (Int64 × St))  (v1 : Int32) (v2 : Int32) (v3 : Int32) (v4 : Int32) (v5 : Int32) (v6 : Int64) (v8 : Int32)   (st : St) (res : (Int64 × St)) (hK94 : ∀ (v1 : Int32) (v2 : Int32) (v3 : Int32) (v4 : Int32) (v5 : Int32) (v6 : Int64) (v8 : Int32) (st : St), K94 v1 v2 v3 v4 v5 v6 v8 st = some res → At p l e (rmK 7) s m args below meth c D G ad (MQJ D G ad below args s res) 12 st [(0, .ref (ad 130)), (1, .int v1), (2, .int v2), (3, .int v3), (4, .int v4), (5, .int v5), (6, .long v6), (8, .int v8)] 94 []) (hf : fX11_worst_s94 n K94  v1 v2 v3 v4 v5 v6 v8 st = some res) : At p l e (rmK 7) s m args below meth c D G ad (MQJ D G ad below args s res) 12 st [(0, .ref (ad 130)), (1, .int v1), (2, .int v2), (3, .int v3), (4, .int v4), (5, .int v5), (6, .long v6), (8, .int v8)] 94 [] := by
  obtain ⟨hx, hb, hml, hown, hts, hr, hlk, hK, had, hSt⟩ := id C
  intro H locs ls hl hP hS
  unfold fX11_worst_s94 at hf
  refine lv_iload hx hb dX11_worst_94 (lv_at hl 7 rfl) ?_
  refine lv_iconst (v := 1) hx hb dX11_worst_96 (by decide) ?_
  refine lv_iload_n hx hb dX11_worst_97 rfl (lv_at hl 3 rfl) ?_
  refine lv_ishl hx hb dX11_worst_98 ?_
  refine lv_icmp_ge (tgt := 183) hx hb dX11_worst_99 (by decide) (fun q => ?_) (fun q => ?_)
  · exact wX11_worst_s183 C n v3 v6 st res (it hf q) H locs ls (lv_sub hl [0, 3, 6] rfl) hP hS
  · exact wX11_worst_s102 C n K94 v1 v2 v3 v4 v5 v6 v8 st res hK94 (ie hf q) H locs ls (lv_sub hl [0, 1, 2, 3, 4, 5, 6, 7] rfl) hP hS
def fX11_worst_L94 (n : Nat)   : Nat → Int32 → Int32 → Int32 → Int32 → Int32 → Int64 → Int32 → St → Option (Int64 × St)
  | 0, _, _, _, _, _, _, _, _ => none
  | k + 1, v1, v2, v3, v4, v5, v6, v8, st => fX11_worst_s94 n (fX11_worst_L94 n k)  v1 v2 v3 v4 v5 v6 v8 st
theorem wX11_worst_L94 (C : Cx p s m args meth c cX11_worst 12 wsL_law RX11 (some .long) D G ad) (n : Nat)    (res : (Int64 × St))  : ∀ (k : Nat) (v1 : Int32) (v2 : Int32) (v3 : Int32) (v4 : Int32) (v5 : Int32) (v6 : Int64) (v8 : Int32)  (st : St), fX11_worst_L94 n k v1 v2 v3 v4 v5 v6 v8 st = some res → At p l e (rmK 7) s m args below meth c D G ad (MQJ D G ad below args s res) 12 st [(0, .ref (ad 130)), (1, .int v1), (2, .int v2), (3, .int v3), (4, .int v4), (5, .int v5), (6, .long v6), (8, .int v8)] 94 [] := by
  intro k
  induction k with
  | zero => intro v1 v2 v3 v4 v5 v6 v8  st h; exact absurd h (by intro q; cases q)
  | succ k ih => intro v1 v2 v3 v4 v5 v6 v8  st h; exact wX11_worst_s94 C n (fX11_worst_L94 n k)  v1 v2 v3 v4 v5 v6 v8   st res ih h
def fX11_worst_s86 (n : Nat)   (v1 : Int32) (v2 : Int32) (v3 : Int32) (v4 : Int32) (v5 : Int32) (st : St) : Option (Int64 × St) := fX11_worst_L94 n n v1 v2 v3 v4 v5 (-1) 0 st
set_option maxHeartbeats 4000000 in
set_option maxRecDepth 100000 in
theorem wX11_worst_s86 (C : Cx p s m args meth c cX11_worst 12 wsL_law RX11 (some .long) D G ad) (n : Nat)   (v1 : Int32) (v2 : Int32) (v3 : Int32) (v4 : Int32) (v5 : Int32)   (st : St) (res : (Int64 × St))  (hf : fX11_worst_s86 n   v1 v2 v3 v4 v5 st = some res) : At p l e (rmK 7) s m args below meth c D G ad (MQJ D G ad below args s res) 12 st [(0, .ref (ad 130)), (1, .int v1), (2, .int v2), (3, .int v3), (4, .int v4), (5, .int v5)] 86 [] := by
  obtain ⟨hx, hb, hml, hown, hts, hr, hlk, hK, had, hSt⟩ := id C
  intro H locs ls hl hP hS
  unfold fX11_worst_s86 at hf
  refine lv_ldc2 hx hb hown (hts _ wm_12_4) dX11_worst_86 ?_
  refine lv_lstore (lv' := [(6, .long (-1)), (0, .ref (ad 130)), (1, .int v1), (2, .int v2), (3, .int v3), (4, .int v4), (5, .int v5)]) hx hb dX11_worst_89 hl (by decide) rfl (fun ls hl => ?_)
  refine lv_iconst (v := 0) hx hb dX11_worst_91 (by decide) ?_
  refine lv_istore (lv' := [(8, .int 0), (6, .long (-1)), (0, .ref (ad 130)), (1, .int v1), (2, .int v2), (3, .int v3), (4, .int v4), (5, .int v5)]) hx hb dX11_worst_92 hl (by decide) rfl (fun ls hl => ?_)
  exact wX11_worst_L94 C n res n v1 v2 v3 v4 v5 (-1) 0 st hf H locs ls (lv_sub hl [2, 3, 4, 5, 6, 7, 1, 0] rfl) hP hS
def fX11_worst_s82 (n : Nat)   (v1 : Int32) (v2 : Int32) (v3 : Int32) (v4 : Int32) (v5 : Int32) (st : St) : Option (Int64 × St) := (fX11_keeps n st).bind (fun q => fX11_worst_s86 n v1 v2 v3 v4 v5 q.2)
set_option maxHeartbeats 4000000 in
set_option maxRecDepth 100000 in
theorem wX11_worst_s82 (C : Cx p s m args meth c cX11_worst 12 wsL_law RX11 (some .long) D G ad) (n : Nat)   (v1 : Int32) (v2 : Int32) (v3 : Int32) (v4 : Int32) (v5 : Int32)   (st : St) (res : (Int64 × St))  (hf : fX11_worst_s82 n   v1 v2 v3 v4 v5 st = some res) : At p l e (rmK 7) s m args below meth c D G ad (MQJ D G ad below args s res) 12 st [(0, .ref (ad 130)), (1, .int v1), (2, .int v2), (3, .int v3), (4, .int v4), (5, .int v5)] 82 [] := by
  obtain ⟨hx, hb, hml, hown, hts, hr, hlk, hK, had, hSt⟩ := id C
  intro H locs ls hl hP hS
  unfold fX11_worst_s82 at hf
  refine lv_aload_n hx hb dX11_worst_82 rfl (lv_at hl 0 rfl) ?_
  obtain ⟨q, hq, hf⟩ := bd hf
  refine gcV_v (k := 0) (o := 130) (As := []) (rest := []) hx hb hml hown hts hK hSt hP hS hl.1 (goodV wm_46_5 wm_46_6 wm_46_7 wm_1_5 wm_46_8) okX11_keeps ct_130 rfl rfl (Nat.le_of_ble_eq_true rfl) (Nat.le_of_ble_eq_true rfl) rfl rfl (Nat.le_of_ble_eq_true rfl) dX11_worst_83 (kX11_keeps l D G ad had n   st q hq) (fun H locs hP hS => ?_)
  exact wX11_worst_s86 C n v1 v2 v3 v4 v5 q.2 res hf H locs ls (lv_sub hl [0, 1, 2, 3, 4, 5] rfl) hP hS
def fX11_worst_s78 (n : Nat)    (st : St) : Option (Int64 × St) := some ((-3), st)
set_option maxHeartbeats 4000000 in
set_option maxRecDepth 100000 in
theorem wX11_worst_s78 (C : Cx p s m args meth c cX11_worst 12 wsL_law RX11 (some .long) D G ad) (n : Nat)      (st : St) (res : (Int64 × St))  (hf : fX11_worst_s78 n    st = some res) : At p l e (rmK 7) s m args below meth c D G ad (MQJ D G ad below args s res) 12 st [] 78 [] := by
  obtain ⟨hx, hb, hml, hown, hts, hr, hlk, hK, had, hSt⟩ := id C
  intro H locs ls hl hP hS
  unfold fX11_worst_s78 at hf
  refine lv_ldc2 hx hb hown (hts _ wm_46_3) dX11_worst_78 ?_
  exact g_lret hx hb hr hlk hP hS dX11_worst_81 hf
def fX11_worst_s66 (n : Nat)   (v1 : Int32) (v2 : Int32) (v3 : Int32) (v4 : Int32) (v5 : Int32) (st : St) : Option (Int64 × St) := if ((st.1 130 12) + v3) ≤ 400 then fX11_worst_s82 n v1 v2 v3 v4 v5 st else fX11_worst_s78 n st
set_option maxHeartbeats 4000000 in
set_option maxRecDepth 100000 in
theorem wX11_worst_s66 (C : Cx p s m args meth c cX11_worst 12 wsL_law RX11 (some .long) D G ad) (n : Nat)   (v1 : Int32) (v2 : Int32) (v3 : Int32) (v4 : Int32) (v5 : Int32)   (st : St) (res : (Int64 × St))  (hf : fX11_worst_s66 n   v1 v2 v3 v4 v5 st = some res) : At p l e (rmK 7) s m args below meth c D G ad (MQJ D G ad below args s res) 12 st [(0, .ref (ad 130)), (1, .int v1), (2, .int v2), (3, .int v3), (4, .int v4), (5, .int v5)] 66 [] := by
  obtain ⟨hx, hb, hml, hown, hts, hr, hlk, hK, had, hSt⟩ := id C
  intro H locs ls hl hP hS
  unfold fX11_worst_s66 at hf
  refine lv_aload_n hx hb dX11_worst_66 rfl (lv_at hl 0 rfl) ?_
  refine g_getI hx hb hts inlX11 hown hK hP 130 ct_130 rfl 12 (by decide) (hts _ wm_10_15) rfl dX11_worst_67 ?_
  refine lv_iload_n hx hb dX11_worst_70 rfl (lv_at hl 3 rfl) ?_
  refine lv_iadd hx hb dX11_worst_71 ?_
  refine lv_sipush (v := 400) hx hb dX11_worst_72 (by decide) ?_
  refine lv_icmp_le (tgt := 82) hx hb dX11_worst_75 (by decide) (fun q => ?_) (fun q => ?_)
  · exact wX11_worst_s82 C n v1 v2 v3 v4 v5 st res (it hf q) H locs ls (lv_sub hl [0, 1, 2, 3, 4, 5] rfl) hP hS
  · exact wX11_worst_s78 C n st res (ie hf q) H locs ls (lv_sub hl [] rfl) hP hS
def fX11_worst_s59 (n : Nat)   (v1 : Int32) (v2 : Int32) (v3 : Int32) (v4 : Int32) (v5 : Int32) (k0 : Int32) (st : St) : Option (Int64 × St) := if k0 = 0 then fX11_worst_s62 n st else fX11_worst_s66 n v1 v2 v3 v4 v5 st
set_option maxHeartbeats 4000000 in
set_option maxRecDepth 100000 in
theorem wX11_worst_s59 (C : Cx p s m args meth c cX11_worst 12 wsL_law RX11 (some .long) D G ad) (n : Nat)   (v1 : Int32) (v2 : Int32) (v3 : Int32) (v4 : Int32) (v5 : Int32) (k0 : Int32)   (st : St) (res : (Int64 × St))  (hf : fX11_worst_s59 n   v1 v2 v3 v4 v5 k0 st = some res) : At p l e (rmK 7) s m args below meth c D G ad (MQJ D G ad below args s res) 12 st [(0, .ref (ad 130)), (1, .int v1), (2, .int v2), (3, .int v3), (4, .int v4), (5, .int v5)] 59 [.int k0] := by
  obtain ⟨hx, hb, hml, hown, hts, hr, hlk, hK, had, hSt⟩ := id C
  intro H locs ls hl hP hS
  unfold fX11_worst_s59 at hf
  refine lv_if_ne (tgt := 66) hx hb dX11_worst_59 (by decide) (fun q => ?_) (fun q => ?_)
  · exact wX11_worst_s66 C n v1 v2 v3 v4 v5 st res (ie hf q) H locs ls (lv_sub hl [0, 1, 2, 3, 4, 5] rfl) hP hS
  · exact wX11_worst_s62 C n st res (it hf q) H locs ls (lv_sub hl [] rfl) hP hS
def fX11_worst_s47 (n : Nat)   (v1 : Int32) (v2 : Int32) (v3 : Int32) (v4 : Int32) (v5 : Int32) (st : St) : Option (Int64 × St) := (fX11_in n v5.toInt64 v4.toInt64 999 st).bind (fun q => fX11_worst_s59 n v1 v2 v3 v4 v5 q.1 q.2)
set_option maxHeartbeats 4000000 in
set_option maxRecDepth 100000 in
theorem wX11_worst_s47 (C : Cx p s m args meth c cX11_worst 12 wsL_law RX11 (some .long) D G ad) (n : Nat)   (v1 : Int32) (v2 : Int32) (v3 : Int32) (v4 : Int32) (v5 : Int32)   (st : St) (res : (Int64 × St))  (hf : fX11_worst_s47 n   v1 v2 v3 v4 v5 st = some res) : At p l e (rmK 7) s m args below meth c D G ad (MQJ D G ad below args s res) 12 st [(0, .ref (ad 130)), (1, .int v1), (2, .int v2), (3, .int v3), (4, .int v4), (5, .int v5)] 47 [] := by
  obtain ⟨hx, hb, hml, hown, hts, hr, hlk, hK, had, hSt⟩ := id C
  intro H locs ls hl hP hS
  unfold fX11_worst_s47 at hf
  refine lv_iload hx hb dX11_worst_47 (lv_at hl 5 rfl) ?_
  refine lv_i2l hx hb dX11_worst_49 rfl ?_
  refine lv_iload hx hb dX11_worst_50 (lv_at hl 4 rfl) ?_
  refine lv_i2l hx hb dX11_worst_52 rfl ?_
  refine lv_ldc2 hx hb hown (hts _ wm_17_0) dX11_worst_53 ?_
  obtain ⟨q, hq, hf⟩ := bd hf
  refine gcS_i (k := 0) (As := [.long v5.toInt64, .long v4.toInt64, .long 999]) (rest := []) hx hb hml hown hts hK hSt hP hS hl.1 (goodS wm_10_21 wm_10_22 wm_1_5 wm_10_23) okX11_in (Nat.le_of_ble_eq_true rfl) (Nat.le_of_ble_eq_true rfl) rfl rfl (Nat.le_of_ble_eq_true rfl) dX11_worst_56 (kX11_in l D G ad had n  v5.toInt64 v4.toInt64 999 st q hq) (fun H locs hP hS => ?_)
  exact wX11_worst_s59 C n v1 v2 v3 v4 v5 q.1 q.2 res hf H locs ls (lv_sub hl [0, 1, 2, 3, 4, 5] rfl) hP hS
def fX11_worst_s44 (n : Nat)   (v1 : Int32) (v2 : Int32) (v3 : Int32) (v4 : Int32) (v5 : Int32) (k0 : Int32) (st : St) : Option (Int64 × St) := if k0 = 0 then fX11_worst_s62 n st else fX11_worst_s47 n v1 v2 v3 v4 v5 st
set_option maxHeartbeats 4000000 in
set_option maxRecDepth 100000 in
theorem wX11_worst_s44 (C : Cx p s m args meth c cX11_worst 12 wsL_law RX11 (some .long) D G ad) (n : Nat)   (v1 : Int32) (v2 : Int32) (v3 : Int32) (v4 : Int32) (v5 : Int32) (k0 : Int32)   (st : St) (res : (Int64 × St))  (hf : fX11_worst_s44 n   v1 v2 v3 v4 v5 k0 st = some res) : At p l e (rmK 7) s m args below meth c D G ad (MQJ D G ad below args s res) 12 st [(0, .ref (ad 130)), (1, .int v1), (2, .int v2), (3, .int v3), (4, .int v4), (5, .int v5)] 44 [.int k0] := by
  obtain ⟨hx, hb, hml, hown, hts, hr, hlk, hK, had, hSt⟩ := id C
  intro H locs ls hl hP hS
  unfold fX11_worst_s44 at hf
  refine lv_if_eq (tgt := 62) hx hb dX11_worst_44 (by decide) (fun q => ?_) (fun q => ?_)
  · exact wX11_worst_s62 C n st res (it hf q) H locs ls (lv_sub hl [] rfl) hP hS
  · exact wX11_worst_s47 C n v1 v2 v3 v4 v5 st res (ie hf q) H locs ls (lv_sub hl [0, 1, 2, 3, 4, 5] rfl) hP hS
def fX11_worst_s34 (n : Nat)   (v1 : Int32) (v2 : Int32) (v3 : Int32) (v4 : Int32) (v5 : Int32) (st : St) : Option (Int64 × St) := (fX11_in n v4.toInt64 0 999 st).bind (fun q => fX11_worst_s44 n v1 v2 v3 v4 v5 q.1 q.2)
set_option maxHeartbeats 4000000 in
set_option maxRecDepth 100000 in
theorem wX11_worst_s34 (C : Cx p s m args meth c cX11_worst 12 wsL_law RX11 (some .long) D G ad) (n : Nat)   (v1 : Int32) (v2 : Int32) (v3 : Int32) (v4 : Int32) (v5 : Int32)   (st : St) (res : (Int64 × St))  (hf : fX11_worst_s34 n   v1 v2 v3 v4 v5 st = some res) : At p l e (rmK 7) s m args below meth c D G ad (MQJ D G ad below args s res) 12 st [(0, .ref (ad 130)), (1, .int v1), (2, .int v2), (3, .int v3), (4, .int v4), (5, .int v5)] 34 [] := by
  obtain ⟨hx, hb, hml, hown, hts, hr, hlk, hK, had, hSt⟩ := id C
  intro H locs ls hl hP hS
  unfold fX11_worst_s34 at hf
  refine lv_iload hx hb dX11_worst_34 (lv_at hl 4 rfl) ?_
  refine lv_i2l hx hb dX11_worst_36 rfl ?_
  refine lv_lconst (v := 0) hx hb dX11_worst_37 (by decide) ?_
  refine lv_ldc2 hx hb hown (hts _ wm_17_0) dX11_worst_38 ?_
  obtain ⟨q, hq, hf⟩ := bd hf
  refine gcS_i (k := 0) (As := [.long v4.toInt64, .long 0, .long 999]) (rest := []) hx hb hml hown hts hK hSt hP hS hl.1 (goodS wm_10_21 wm_10_22 wm_1_5 wm_10_23) okX11_in (Nat.le_of_ble_eq_true rfl) (Nat.le_of_ble_eq_true rfl) rfl rfl (Nat.le_of_ble_eq_true rfl) dX11_worst_41 (kX11_in l D G ad had n  v4.toInt64 0 999 st q hq) (fun H locs hP hS => ?_)
  exact wX11_worst_s44 C n v1 v2 v3 v4 v5 q.1 q.2 res hf H locs ls (lv_sub hl [0, 1, 2, 3, 4, 5] rfl) hP hS
def fX11_worst_s31 (n : Nat)   (v1 : Int32) (v2 : Int32) (v3 : Int32) (v4 : Int32) (v5 : Int32) (k0 : Int32) (st : St) : Option (Int64 × St) := if k0 = 0 then fX11_worst_s62 n st else fX11_worst_s34 n v1 v2 v3 v4 v5 st
set_option maxHeartbeats 4000000 in
set_option maxRecDepth 100000 in
theorem wX11_worst_s31 (C : Cx p s m args meth c cX11_worst 12 wsL_law RX11 (some .long) D G ad) (n : Nat)   (v1 : Int32) (v2 : Int32) (v3 : Int32) (v4 : Int32) (v5 : Int32) (k0 : Int32)   (st : St) (res : (Int64 × St))  (hf : fX11_worst_s31 n   v1 v2 v3 v4 v5 k0 st = some res) : At p l e (rmK 7) s m args below meth c D G ad (MQJ D G ad below args s res) 12 st [(0, .ref (ad 130)), (1, .int v1), (2, .int v2), (3, .int v3), (4, .int v4), (5, .int v5)] 31 [.int k0] := by
  obtain ⟨hx, hb, hml, hown, hts, hr, hlk, hK, had, hSt⟩ := id C
  intro H locs ls hl hP hS
  unfold fX11_worst_s31 at hf
  refine lv_if_eq (tgt := 62) hx hb dX11_worst_31 (by decide) (fun q => ?_) (fun q => ?_)
  · exact wX11_worst_s62 C n st res (it hf q) H locs ls (lv_sub hl [] rfl) hP hS
  · exact wX11_worst_s34 C n v1 v2 v3 v4 v5 st res (ie hf q) H locs ls (lv_sub hl [0, 1, 2, 3, 4, 5] rfl) hP hS
def fX11_worst_s22 (n : Nat)   (v1 : Int32) (v2 : Int32) (v3 : Int32) (v4 : Int32) (v5 : Int32) (st : St) : Option (Int64 × St) := (fX11_in n v3.toInt64 1 6 st).bind (fun q => fX11_worst_s31 n v1 v2 v3 v4 v5 q.1 q.2)
set_option maxHeartbeats 4000000 in
set_option maxRecDepth 100000 in
theorem wX11_worst_s22 (C : Cx p s m args meth c cX11_worst 12 wsL_law RX11 (some .long) D G ad) (n : Nat)   (v1 : Int32) (v2 : Int32) (v3 : Int32) (v4 : Int32) (v5 : Int32)   (st : St) (res : (Int64 × St))  (hf : fX11_worst_s22 n   v1 v2 v3 v4 v5 st = some res) : At p l e (rmK 7) s m args below meth c D G ad (MQJ D G ad below args s res) 12 st [(0, .ref (ad 130)), (1, .int v1), (2, .int v2), (3, .int v3), (4, .int v4), (5, .int v5)] 22 [] := by
  obtain ⟨hx, hb, hml, hown, hts, hr, hlk, hK, had, hSt⟩ := id C
  intro H locs ls hl hP hS
  unfold fX11_worst_s22 at hf
  refine lv_iload_n hx hb dX11_worst_22 rfl (lv_at hl 3 rfl) ?_
  refine lv_i2l hx hb dX11_worst_23 rfl ?_
  refine lv_lconst (v := 1) hx hb dX11_worst_24 (by decide) ?_
  refine lv_ldc2 hx hb hown (hts _ wm_10_13) dX11_worst_25 ?_
  obtain ⟨q, hq, hf⟩ := bd hf
  refine gcS_i (k := 0) (As := [.long v3.toInt64, .long 1, .long 6]) (rest := []) hx hb hml hown hts hK hSt hP hS hl.1 (goodS wm_10_21 wm_10_22 wm_1_5 wm_10_23) okX11_in (Nat.le_of_ble_eq_true rfl) (Nat.le_of_ble_eq_true rfl) rfl rfl (Nat.le_of_ble_eq_true rfl) dX11_worst_28 (kX11_in l D G ad had n  v3.toInt64 1 6 st q hq) (fun H locs hP hS => ?_)
  exact wX11_worst_s31 C n v1 v2 v3 v4 v5 q.1 q.2 res hf H locs ls (lv_sub hl [0, 1, 2, 3, 4, 5] rfl) hP hS
def fX11_worst_s15 (n : Nat)   (v1 : Int32) (v2 : Int32) (v3 : Int32) (v4 : Int32) (v5 : Int32) (k0 : Int32) (st : St) : Option (Int64 × St) := if k0 = 0 then fX11_worst_s18 n st else fX11_worst_s22 n v1 v2 v3 v4 v5 st
set_option maxHeartbeats 4000000 in
set_option maxRecDepth 100000 in
theorem wX11_worst_s15 (C : Cx p s m args meth c cX11_worst 12 wsL_law RX11 (some .long) D G ad) (n : Nat)   (v1 : Int32) (v2 : Int32) (v3 : Int32) (v4 : Int32) (v5 : Int32) (k0 : Int32)   (st : St) (res : (Int64 × St))  (hf : fX11_worst_s15 n   v1 v2 v3 v4 v5 k0 st = some res) : At p l e (rmK 7) s m args below meth c D G ad (MQJ D G ad below args s res) 12 st [(0, .ref (ad 130)), (1, .int v1), (2, .int v2), (3, .int v3), (4, .int v4), (5, .int v5)] 15 [.int k0] := by
  obtain ⟨hx, hb, hml, hown, hts, hr, hlk, hK, had, hSt⟩ := id C
  intro H locs ls hl hP hS
  unfold fX11_worst_s15 at hf
  refine lv_if_ne (tgt := 22) hx hb dX11_worst_15 (by decide) (fun q => ?_) (fun q => ?_)
  · exact wX11_worst_s22 C n v1 v2 v3 v4 v5 st res (ie hf q) H locs ls (lv_sub hl [0, 1, 2, 3, 4, 5] rfl) hP hS
  · exact wX11_worst_s18 C n st res (it hf q) H locs ls (lv_sub hl [] rfl) hP hS
def fX11_worst_s8 (n : Nat)   (v1 : Int32) (v2 : Int32) (v3 : Int32) (v4 : Int32) (v5 : Int32) (st : St) : Option (Int64 × St) := (fX11_in n v2.toInt64 0 1 st).bind (fun q => fX11_worst_s15 n v1 v2 v3 v4 v5 q.1 q.2)
set_option maxHeartbeats 4000000 in
set_option maxRecDepth 100000 in
theorem wX11_worst_s8 (C : Cx p s m args meth c cX11_worst 12 wsL_law RX11 (some .long) D G ad) (n : Nat)   (v1 : Int32) (v2 : Int32) (v3 : Int32) (v4 : Int32) (v5 : Int32)   (st : St) (res : (Int64 × St))  (hf : fX11_worst_s8 n   v1 v2 v3 v4 v5 st = some res) : At p l e (rmK 7) s m args below meth c D G ad (MQJ D G ad below args s res) 12 st [(0, .ref (ad 130)), (1, .int v1), (2, .int v2), (3, .int v3), (4, .int v4), (5, .int v5)] 8 [] := by
  obtain ⟨hx, hb, hml, hown, hts, hr, hlk, hK, had, hSt⟩ := id C
  intro H locs ls hl hP hS
  unfold fX11_worst_s8 at hf
  refine lv_iload_n hx hb dX11_worst_8 rfl (lv_at hl 2 rfl) ?_
  refine lv_i2l hx hb dX11_worst_9 rfl ?_
  refine lv_lconst (v := 0) hx hb dX11_worst_10 (by decide) ?_
  refine lv_lconst (v := 1) hx hb dX11_worst_11 (by decide) ?_
  obtain ⟨q, hq, hf⟩ := bd hf
  refine gcS_i (k := 0) (As := [.long v2.toInt64, .long 0, .long 1]) (rest := []) hx hb hml hown hts hK hSt hP hS hl.1 (goodS wm_10_21 wm_10_22 wm_1_5 wm_10_23) okX11_in (Nat.le_of_ble_eq_true rfl) (Nat.le_of_ble_eq_true rfl) rfl rfl (Nat.le_of_ble_eq_true rfl) dX11_worst_12 (kX11_in l D G ad had n  v2.toInt64 0 1 st q hq) (fun H locs hP hS => ?_)
  exact wX11_worst_s15 C n v1 v2 v3 v4 v5 q.1 q.2 res hf H locs ls (lv_sub hl [0, 1, 2, 3, 4, 5] rfl) hP hS
def fX11_worst_s5 (n : Nat)   (v1 : Int32) (v2 : Int32) (v3 : Int32) (v4 : Int32) (v5 : Int32) (k0 : Int32) (st : St) : Option (Int64 × St) := if k0 = 0 then fX11_worst_s18 n st else fX11_worst_s8 n v1 v2 v3 v4 v5 st
set_option maxHeartbeats 4000000 in
set_option maxRecDepth 100000 in
theorem wX11_worst_s5 (C : Cx p s m args meth c cX11_worst 12 wsL_law RX11 (some .long) D G ad) (n : Nat)   (v1 : Int32) (v2 : Int32) (v3 : Int32) (v4 : Int32) (v5 : Int32) (k0 : Int32)   (st : St) (res : (Int64 × St))  (hf : fX11_worst_s5 n   v1 v2 v3 v4 v5 k0 st = some res) : At p l e (rmK 7) s m args below meth c D G ad (MQJ D G ad below args s res) 12 st [(0, .ref (ad 130)), (1, .int v1), (2, .int v2), (3, .int v3), (4, .int v4), (5, .int v5)] 5 [.int k0] := by
  obtain ⟨hx, hb, hml, hown, hts, hr, hlk, hK, had, hSt⟩ := id C
  intro H locs ls hl hP hS
  unfold fX11_worst_s5 at hf
  refine lv_if_eq (tgt := 18) hx hb dX11_worst_5 (by decide) (fun q => ?_) (fun q => ?_)
  · exact wX11_worst_s18 C n st res (it hf q) H locs ls (lv_sub hl [] rfl) hP hS
  · exact wX11_worst_s8 C n v1 v2 v3 v4 v5 st res (ie hf q) H locs ls (lv_sub hl [0, 1, 2, 3, 4, 5] rfl) hP hS
def fX11_worst_s0 (n : Nat)   (v1 : Int32) (v2 : Int32) (v3 : Int32) (v4 : Int32) (v5 : Int32) (st : St) : Option (Int64 × St) := (fX11_isShop n v1 st).bind (fun q => fX11_worst_s5 n v1 v2 v3 v4 v5 q.1 q.2)
set_option maxHeartbeats 4000000 in
set_option maxRecDepth 100000 in
theorem wX11_worst_s0 (C : Cx p s m args meth c cX11_worst 12 wsL_law RX11 (some .long) D G ad) (n : Nat)   (v1 : Int32) (v2 : Int32) (v3 : Int32) (v4 : Int32) (v5 : Int32)   (st : St) (res : (Int64 × St))  (hf : fX11_worst_s0 n   v1 v2 v3 v4 v5 st = some res) : At p l e (rmK 7) s m args below meth c D G ad (MQJ D G ad below args s res) 12 st [(0, .ref (ad 130)), (1, .int v1), (2, .int v2), (3, .int v3), (4, .int v4), (5, .int v5)] 0 [] := by
  obtain ⟨hx, hb, hml, hown, hts, hr, hlk, hK, had, hSt⟩ := id C
  intro H locs ls hl hP hS
  unfold fX11_worst_s0 at hf
  refine lv_aload_n hx hb dX11_worst_0 rfl (lv_at hl 0 rfl) ?_
  refine lv_iload_n hx hb dX11_worst_1 rfl (lv_at hl 1 rfl) ?_
  obtain ⟨q, hq, hf⟩ := bd hf
  refine gcV_i (k := 2) (o := 130) (As := [.int v1]) (rest := []) hx hb hml hown hts hK hSt hP hS hl.1 (goodV wm_17_1 wm_17_2 wm_17_3 wm_1_5 wm_17_4) okX11_isShop ct_130 rfl rfl (Nat.le_of_ble_eq_true rfl) (Nat.le_of_ble_eq_true rfl) rfl rfl (Nat.le_of_ble_eq_true rfl) dX11_worst_2 (kX11_isShop l D G ad had n  v1 st q hq) (fun H locs hP hS => ?_)
  exact wX11_worst_s5 C n v1 v2 v3 v4 v5 q.1 q.2 res hf H locs ls (lv_sub hl [0, 1, 2, 3, 4, 5] rfl) hP hS
def fX11_worst (n : Nat)  (a1 : Int32) (a2 : Int32) (a3 : Int32) (a4 : Int32) (a5 : Int32) (st : St) : Option (Int64 × St) := fX11_worst_s0 n a1 a2 a3 a4 a5 st
theorem okX11_worst : okY yX11_worst RX11 5 := by unfold okY; decide +kernel
end
set_option maxRecDepth 100000 in
theorem kX11_worst (l : Launch) (D : va_G) (G : G3) (ad : Nat → Nat) (had : Adr ad) (n : Nat)   (a1 : Int32) (a2 : Int32) (a3 : Int32) (a4 : Int32) (a5 : Int32) (st : St) (res : (Int64 × St)) (hf : fX11_worst n  a1 a2 a3 a4 a5 st = some res) {sz : Nat} : CtJ l yX11_worst (wsU yX11_worst cX11_worst 12 (some .long)) (rmK 7) D G ad sz [.ref (ad 130), .int a1, .int a2, .int a3, .int a4, .int a5] st res := by
  refine Met.ofW (cc := cX11_worst) (maxL := 12) (ret := (some .long)) (by decide) rfl ?_
  intro p e s m args below meth c s₁ B hml hv
  obtain ⟨rfl, hsz, hP, hK, hSt⟩ := hv
  have hts := atoms_spec (ws := wsU yX11_worst cX11_worst 12 (some .long)) B.pre
  have C : Cx p s m _ meth c cX11_worst 12 wsL_law RX11 (some .long) D G ad := ⟨B.exec, B.bytes, hml, findClass_of_methodNamed B.named, fun w h => hts w (List.mem_cons_of_mem _ h), B.returns, B.notSynchronized, hK, had, hSt⟩
  subst hsz
  have hl := lv_entry ([.ref (ad 130), .int a1, .int a2, .int a3, .int a4, .int a5]) (n := 12) (Nat.le_of_ble_eq_true rfl)
  rw [lg_entry_eq]
  generalize (lg_sl ([.ref (ad 130), .int a1, .int a2, .int a3, .int a4, .int a5]) ++ List.replicate (12 - (lg_sl ([.ref (ad 130), .int a1, .int a2, .int a3, .int a4, .int a5])).length) Slot.unset).toArray = ls at hl ⊢
  exact wX11_worst_s0 C n  a1 a2 a3 a4 a5   st res hf s.heap [] ls (lv_sub hl [0, 1, 2, 3, 4, 5] rfl) hP va_S.rf
section
variable {p : Program} {l : Launch} {e : Env} {s : State} {m : MethodId} {args : Array Value} {below : List Frame} {meth : Method} {c : Code} {D : va_G} {G : G3} {ad : Nat → Nat}
def fX11_worstAt_s26 (n : Nat)   (k0 : Int32) (st : St) : Option (Int32 × St) := some (k0, st)
set_option maxHeartbeats 4000000 in
set_option maxRecDepth 100000 in
theorem wX11_worstAt_s26 (C : Cx p s m args meth c cX11_worstAt 2 wsL_law RX11 (some .int) D G ad) (n : Nat)   (k0 : Int32)   (st : St) (res : (Int32 × St))  (hf : fX11_worstAt_s26 n   k0 st = some res) : At p l e (rmK 1) s m args below meth c D G ad (MQI D G ad below args s res) 2 st [] 26 [.int k0] := by
  obtain ⟨hx, hb, hml, hown, hts, hr, hlk, hK, had, hSt⟩ := id C
  intro H locs ls hl hP hS
  unfold fX11_worstAt_s26 at hf
  exact g_iret hx hb hr hlk hP hS dX11_worstAt_26 hf
def fX11_worstAt_s25 (n : Nat)    (st : St) : Option (Int32 × St) := fX11_worstAt_s26 n (-1) st
set_option maxHeartbeats 4000000 in
set_option maxRecDepth 100000 in
theorem wX11_worstAt_s25 (C : Cx p s m args meth c cX11_worstAt 2 wsL_law RX11 (some .int) D G ad) (n : Nat)      (st : St) (res : (Int32 × St))  (hf : fX11_worstAt_s25 n    st = some res) : At p l e (rmK 1) s m args below meth c D G ad (MQI D G ad below args s res) 2 st [] 25 [] := by
  obtain ⟨hx, hb, hml, hown, hts, hr, hlk, hK, had, hSt⟩ := id C
  intro H locs ls hl hP hS
  unfold fX11_worstAt_s25 at hf
  refine lv_iconst (v := (-1)) hx hb dX11_worstAt_25 (by decide) ?_
  exact wX11_worstAt_s26 C n (-1) st res hf H locs ls (lv_sub hl [] rfl) hP hS
def fX11_worstAt_s16 (n : Nat)   (v1 : Int32) (st : St) : Option (Int32 × St) := if inb v1 6 = true then (fX11_worstAt_s26 n (st.1 176 v1.toNatClampNeg) st) else none
set_option maxHeartbeats 4000000 in
set_option maxRecDepth 100000 in
theorem wX11_worstAt_s16 (C : Cx p s m args meth c cX11_worstAt 2 wsL_law RX11 (some .int) D G ad) (n : Nat)   (v1 : Int32)   (st : St) (res : (Int32 × St))  (hf : fX11_worstAt_s16 n   v1 st = some res) : At p l e (rmK 1) s m args below meth c D G ad (MQI D G ad below args s res) 2 st [(0, .ref (ad 130)), (1, .int v1)] 16 [] := by
  obtain ⟨hx, hb, hml, hown, hts, hr, hlk, hK, had, hSt⟩ := id C
  intro H locs ls hl hP hS
  unfold fX11_worstAt_s16 at hf
  refine lv_aload_n hx hb dX11_worstAt_16 rfl (lv_at hl 0 rfl) ?_
  refine g_getR hx hb hts inlX11 hown hK hP 130 ct_130 rfl 74 (by decide) (hts _ wm_9_4) rfl dX11_worstAt_17 ?_
  refine lv_iload_n hx hb dX11_worstAt_20 rfl (lv_at hl 1 rfl) ?_
  obtain ⟨g1, hf⟩ := gd hf
  refine g_iald hx hb hK hP 176 ct_176 g1 dX11_worstAt_21 ?_
  refine lv_goto (tgt := 26) hx hb dX11_worstAt_22 (by decide) ?_
  exact wX11_worstAt_s26 C n (st.1 176 v1.toNatClampNeg) st res hf H locs ls (lv_sub hl [] rfl) hP hS
def fX11_worstAt_s13 (n : Nat)   (v1 : Int32) (k0 : Int32) (st : St) : Option (Int32 × St) := if k0 = 0 then fX11_worstAt_s25 n st else fX11_worstAt_s16 n v1 st
set_option maxHeartbeats 4000000 in
set_option maxRecDepth 100000 in
theorem wX11_worstAt_s13 (C : Cx p s m args meth c cX11_worstAt 2 wsL_law RX11 (some .int) D G ad) (n : Nat)   (v1 : Int32) (k0 : Int32)   (st : St) (res : (Int32 × St))  (hf : fX11_worstAt_s13 n   v1 k0 st = some res) : At p l e (rmK 1) s m args below meth c D G ad (MQI D G ad below args s res) 2 st [(0, .ref (ad 130)), (1, .int v1)] 13 [.int k0] := by
  obtain ⟨hx, hb, hml, hown, hts, hr, hlk, hK, had, hSt⟩ := id C
  intro H locs ls hl hP hS
  unfold fX11_worstAt_s13 at hf
  refine lv_if_eq (tgt := 25) hx hb dX11_worstAt_13 (by decide) (fun q => ?_) (fun q => ?_)
  · exact wX11_worstAt_s25 C n st res (it hf q) H locs ls (lv_sub hl [] rfl) hP hS
  · exact wX11_worstAt_s16 C n v1 st res (ie hf q) H locs ls (lv_sub hl [0, 1] rfl) hP hS
def fX11_worstAt_s0 (n : Nat)   (v1 : Int32) (st : St) : Option (Int32 × St) := (fX11_in n v1.toInt64 0 (((st.1 130 75) - 1).toInt64) st).bind (fun q => fX11_worstAt_s13 n v1 q.1 q.2)
set_option maxHeartbeats 4000000 in
set_option maxRecDepth 100000 in
theorem wX11_worstAt_s0 (C : Cx p s m args meth c cX11_worstAt 2 wsL_law RX11 (some .int) D G ad) (n : Nat)   (v1 : Int32)   (st : St) (res : (Int32 × St))  (hf : fX11_worstAt_s0 n   v1 st = some res) : At p l e (rmK 1) s m args below meth c D G ad (MQI D G ad below args s res) 2 st [(0, .ref (ad 130)), (1, .int v1)] 0 [] := by
  obtain ⟨hx, hb, hml, hown, hts, hr, hlk, hK, had, hSt⟩ := id C
  intro H locs ls hl hP hS
  unfold fX11_worstAt_s0 at hf
  refine lv_iload_n hx hb dX11_worstAt_0 rfl (lv_at hl 1 rfl) ?_
  refine lv_i2l hx hb dX11_worstAt_1 rfl ?_
  refine lv_lconst (v := 0) hx hb dX11_worstAt_2 (by decide) ?_
  refine lv_aload_n hx hb dX11_worstAt_3 rfl (lv_at hl 0 rfl) ?_
  refine g_getI hx hb hts inlX11 hown hK hP 130 ct_130 rfl 75 (by decide) (hts _ wm_46_4) rfl dX11_worstAt_4 ?_
  refine lv_iconst (v := 1) hx hb dX11_worstAt_7 (by decide) ?_
  refine lv_isub hx hb dX11_worstAt_8 ?_
  refine lv_i2l hx hb dX11_worstAt_9 rfl ?_
  obtain ⟨q, hq, hf⟩ := bd hf
  refine gcS_i (k := 0) (As := [.long v1.toInt64, .long 0, .long (((st.1 130 75) - 1).toInt64)]) (rest := []) hx hb hml hown hts hK hSt hP hS hl.1 (goodS wm_10_21 wm_10_22 wm_1_5 wm_10_23) okX11_in (Nat.le_of_ble_eq_true rfl) (Nat.le_of_ble_eq_true rfl) rfl rfl (Nat.le_of_ble_eq_true rfl) dX11_worstAt_10 (kX11_in l D G ad had n  v1.toInt64 0 (((st.1 130 75) - 1).toInt64) st q hq) (fun H locs hP hS => ?_)
  exact wX11_worstAt_s13 C n v1 q.1 q.2 res hf H locs ls (lv_sub hl [0, 1] rfl) hP hS
def fX11_worstAt (n : Nat)  (a1 : Int32) (st : St) : Option (Int32 × St) := fX11_worstAt_s0 n a1 st
theorem okX11_worstAt : okY yX11_worstAt RX11 1 := by unfold okY; decide +kernel
end
set_option maxRecDepth 100000 in
theorem kX11_worstAt (l : Launch) (D : va_G) (G : G3) (ad : Nat → Nat) (had : Adr ad) (n : Nat)   (a1 : Int32) (st : St) (res : (Int32 × St)) (hf : fX11_worstAt n  a1 st = some res) {sz : Nat} : CtI l yX11_worstAt (wsU yX11_worstAt cX11_worstAt 2 (some .int)) (rmK 1) D G ad sz [.ref (ad 130), .int a1] st res := by
  refine Met.ofW (cc := cX11_worstAt) (maxL := 2) (ret := (some .int)) (by decide) rfl ?_
  intro p e s m args below meth c s₁ B hml hv
  obtain ⟨rfl, hsz, hP, hK, hSt⟩ := hv
  have hts := atoms_spec (ws := wsU yX11_worstAt cX11_worstAt 2 (some .int)) B.pre
  have C : Cx p s m _ meth c cX11_worstAt 2 wsL_law RX11 (some .int) D G ad := ⟨B.exec, B.bytes, hml, findClass_of_methodNamed B.named, fun w h => hts w (List.mem_cons_of_mem _ h), B.returns, B.notSynchronized, hK, had, hSt⟩
  subst hsz
  have hl := lv_entry ([.ref (ad 130), .int a1]) (n := 2) (Nat.le_of_ble_eq_true rfl)
  rw [lg_entry_eq]
  generalize (lg_sl ([.ref (ad 130), .int a1]) ++ List.replicate (2 - (lg_sl ([.ref (ad 130), .int a1])).length) Slot.unset).toArray = ls at hl ⊢
  exact wX11_worstAt_s0 C n  a1   st res hf s.heap [] ls (lv_sub hl [0, 1] rfl) hP va_S.rf
section
variable {p : Program} {l : Launch} {e : Env} {s : State} {m : MethodId} {args : Array Value} {below : List Frame} {meth : Method} {c : Code} {D : va_G} {G : G3} {ad : Nat → Nat}
def fX11_areDigits_s16 (n : Nat)    (st : St) : Option (Int32 × St) := some (0, st)
set_option maxHeartbeats 4000000 in
set_option maxRecDepth 100000 in
theorem wX11_areDigits_s16 (C : Cx p s m args meth c cX11_areDigits 5 wsL_law RX11 (some .boolean) D G ad) (n : Nat)      (st : St) (res : (Int32 × St))  (hf : fX11_areDigits_s16 n    st = some res) : At p l e (rmK 0) s m args below meth c D G ad (MQI D G ad below args s res) 5 st [] 16 [] := by
  obtain ⟨hx, hb, hml, hown, hts, hr, hlk, hK, had, hSt⟩ := id C
  intro H locs ls hl hP hS
  unfold fX11_areDigits_s16 at hf
  refine lv_iconst (v := 0) hx hb dX11_areDigits_16 (by decide) ?_
  exact g_zret hx hb hr hlk hP hS (Or.inl rfl) dX11_areDigits_17 hf
def fX11_areDigits_s51 (n : Nat)    (st : St) : Option (Int32 × St) := some (1, st)
set_option maxHeartbeats 4000000 in
set_option maxRecDepth 100000 in
theorem wX11_areDigits_s51 (C : Cx p s m args meth c cX11_areDigits 5 wsL_law RX11 (some .boolean) D G ad) (n : Nat)      (st : St) (res : (Int32 × St))  (hf : fX11_areDigits_s51 n    st = some res) : At p l e (rmK 0) s m args below meth c D G ad (MQI D G ad below args s res) 5 st [] 51 [] := by
  obtain ⟨hx, hb, hml, hown, hts, hr, hlk, hK, had, hSt⟩ := id C
  intro H locs ls hl hP hS
  unfold fX11_areDigits_s51 at hf
  refine lv_iconst (v := 1) hx hb dX11_areDigits_51 (by decide) ?_
  exact g_zret hx hb hr hlk hP hS (Or.inr rfl) dX11_areDigits_52 hf
def fX11_areDigits_s45 (n : Nat) (K21 : Int64 → Int32 → Int32 → Int32 → St → Option (Int32 × St))  (v0 : Int64) (v2 : Int32) (v3 : Int32) (v4 : Int32) (st : St) : Option (Int32 × St) := K21 v0 v2 v3 (v4 + 1) st
set_option maxHeartbeats 4000000 in
set_option maxRecDepth 100000 in
theorem wX11_areDigits_s45 (C : Cx p s m args meth c cX11_areDigits 5 wsL_law RX11 (some .boolean) D G ad) (n : Nat) (K21 : Int64 → Int32 → Int32 → Int32 → St → Option (Int32 × St))  (v0 : Int64) (v2 : Int32) (v3 : Int32) (v4 : Int32)   (st : St) (res : (Int32 × St)) (hK21 : ∀ (v0 : Int64) (v2 : Int32) (v3 : Int32) (v4 : Int32) (st : St), K21 v0 v2 v3 v4 st = some res → At p l e (rmK 0) s m args below meth c D G ad (MQI D G ad below args s res) 5 st [(0, .long v0), (2, .int v2), (3, .int v3), (4, .int v4)] 21 []) (hf : fX11_areDigits_s45 n K21  v0 v2 v3 v4 st = some res) : At p l e (rmK 0) s m args below meth c D G ad (MQI D G ad below args s res) 5 st [(0, .long v0), (2, .int v2), (3, .int v3), (4, .int v4)] 45 [] := by
  obtain ⟨hx, hb, hml, hown, hts, hr, hlk, hK, had, hSt⟩ := id C
  intro H locs ls hl hP hS
  unfold fX11_areDigits_s45 at hf
  refine lv_iinc (v := v4 + 1) (lv' := [(4, .int (v4 + 1)), (0, .long v0), (2, .int v2), (3, .int v3)]) hx hb dX11_areDigits_45 hl (k := 3) rfl rfl (by decide) rfl (fun ls hl => ?_)
  refine lv_goto (tgt := 21) hx hb dX11_areDigits_48 (by decide) ?_
  exact hK21 v0 v2 v3 (v4 + 1)  st hf H locs ls (lv_sub hl [1, 2, 3, 0] rfl) hP hS
def fX11_areDigits_s43 (n : Nat)    (st : St) : Option (Int32 × St) := some (0, st)
set_option maxHeartbeats 4000000 in
set_option maxRecDepth 100000 in
theorem wX11_areDigits_s43 (C : Cx p s m args meth c cX11_areDigits 5 wsL_law RX11 (some .boolean) D G ad) (n : Nat)      (st : St) (res : (Int32 × St))  (hf : fX11_areDigits_s43 n    st = some res) : At p l e (rmK 0) s m args below meth c D G ad (MQI D G ad below args s res) 5 st [] 43 [] := by
  obtain ⟨hx, hb, hml, hown, hts, hr, hlk, hK, had, hSt⟩ := id C
  intro H locs ls hl hP hS
  unfold fX11_areDigits_s43 at hf
  refine lv_iconst (v := 0) hx hb dX11_areDigits_43 (by decide) ?_
  exact g_zret hx hb hr hlk hP hS (Or.inl rfl) dX11_areDigits_44 hf
def fX11_areDigits_s27 (n : Nat) (K21 : Int64 → Int32 → Int32 → Int32 → St → Option (Int32 × St))  (v0 : Int64) (v2 : Int32) (v3 : Int32) (v4 : Int32) (st : St) : Option (Int32 × St) := if ((v0 >>> ((4 * v4).toInt64 &&& 63)) &&& 15) ≤ v3.toInt64 then fX11_areDigits_s45 n K21 v0 v2 v3 v4 st else fX11_areDigits_s43 n st
set_option maxHeartbeats 4000000 in
set_option maxRecDepth 100000 in
theorem wX11_areDigits_s27 (C : Cx p s m args meth c cX11_areDigits 5 wsL_law RX11 (some .boolean) D G ad) (n : Nat) (K21 : Int64 → Int32 → Int32 → Int32 → St → Option (Int32 × St))  (v0 : Int64) (v2 : Int32) (v3 : Int32) (v4 : Int32)   (st : St) (res : (Int32 × St)) (hK21 : ∀ (v0 : Int64) (v2 : Int32) (v3 : Int32) (v4 : Int32) (st : St), K21 v0 v2 v3 v4 st = some res → At p l e (rmK 0) s m args below meth c D G ad (MQI D G ad below args s res) 5 st [(0, .long v0), (2, .int v2), (3, .int v3), (4, .int v4)] 21 []) (hf : fX11_areDigits_s27 n K21  v0 v2 v3 v4 st = some res) : At p l e (rmK 0) s m args below meth c D G ad (MQI D G ad below args s res) 5 st [(0, .long v0), (2, .int v2), (3, .int v3), (4, .int v4)] 27 [] := by
  obtain ⟨hx, hb, hml, hown, hts, hr, hlk, hK, had, hSt⟩ := id C
  intro H locs ls hl hP hS
  unfold fX11_areDigits_s27 at hf
  refine lv_lload_n hx hb dX11_areDigits_27 rfl (lv_at hl 0 rfl) ?_
  refine lv_iconst (v := 4) hx hb dX11_areDigits_28 (by decide) ?_
  refine lv_iload hx hb dX11_areDigits_29 (lv_at hl 3 rfl) ?_
  refine lv_imul hx hb dX11_areDigits_31 ?_
  refine lv_lshr hx hb dX11_areDigits_32 rfl ?_
  refine lv_ldc2 hx hb hown (hts _ wm_48_6) dX11_areDigits_33 ?_
  refine lv_land hx hb dX11_areDigits_36 ?_
  refine lv_iload_n hx hb dX11_areDigits_37 rfl (lv_at hl 2 rfl) ?_
  refine lv_i2l hx hb dX11_areDigits_38 rfl ?_
  refine g_lcmp_le (tgt := 45) hx hb dX11_areDigits_39 dX11_areDigits_40 (by decide) (fun q => ?_) (fun q => ?_)
  · exact wX11_areDigits_s45 C n K21 v0 v2 v3 v4 st res hK21 (it hf q) H locs ls (lv_sub hl [0, 1, 2, 3] rfl) hP hS
  · exact wX11_areDigits_s43 C n st res (ie hf q) H locs ls (lv_sub hl [] rfl) hP hS
def fX11_areDigits_s21 (n : Nat) (K21 : Int64 → Int32 → Int32 → Int32 → St → Option (Int32 × St))  (v0 : Int64) (v2 : Int32) (v3 : Int32) (v4 : Int32) (st : St) : Option (Int32 × St) := if v2 ≤ v4 then fX11_areDigits_s51 n st else fX11_areDigits_s27 n K21 v0 v2 v3 v4 st
set_option maxHeartbeats 4000000 in
set_option maxRecDepth 100000 in
theorem wX11_areDigits_s21 (C : Cx p s m args meth c cX11_areDigits 5 wsL_law RX11 (some .boolean) D G ad) (n : Nat) (K21 : Int64 → Int32 → Int32 → Int32 → St → Option (Int32 × St))  (v0 : Int64) (v2 : Int32) (v3 : Int32) (v4 : Int32)   (st : St) (res : (Int32 × St)) (hK21 : ∀ (v0 : Int64) (v2 : Int32) (v3 : Int32) (v4 : Int32) (st : St), K21 v0 v2 v3 v4 st = some res → At p l e (rmK 0) s m args below meth c D G ad (MQI D G ad below args s res) 5 st [(0, .long v0), (2, .int v2), (3, .int v3), (4, .int v4)] 21 []) (hf : fX11_areDigits_s21 n K21  v0 v2 v3 v4 st = some res) : At p l e (rmK 0) s m args below meth c D G ad (MQI D G ad below args s res) 5 st [(0, .long v0), (2, .int v2), (3, .int v3), (4, .int v4)] 21 [] := by
  obtain ⟨hx, hb, hml, hown, hts, hr, hlk, hK, had, hSt⟩ := id C
  intro H locs ls hl hP hS
  unfold fX11_areDigits_s21 at hf
  refine lv_iload hx hb dX11_areDigits_21 (lv_at hl 3 rfl) ?_
  refine lv_iload_n hx hb dX11_areDigits_23 rfl (lv_at hl 1 rfl) ?_
  refine lv_icmp_ge (tgt := 51) hx hb dX11_areDigits_24 (by decide) (fun q => ?_) (fun q => ?_)
  · exact wX11_areDigits_s51 C n st res (it hf q) H locs ls (lv_sub hl [] rfl) hP hS
  · exact wX11_areDigits_s27 C n K21 v0 v2 v3 v4 st res hK21 (ie hf q) H locs ls (lv_sub hl [0, 1, 2, 3] rfl) hP hS
def fX11_areDigits_L21 (n : Nat)   : Nat → Int64 → Int32 → Int32 → Int32 → St → Option (Int32 × St)
  | 0, _, _, _, _, _ => none
  | k + 1, v0, v2, v3, v4, st => fX11_areDigits_s21 n (fX11_areDigits_L21 n k)  v0 v2 v3 v4 st
theorem wX11_areDigits_L21 (C : Cx p s m args meth c cX11_areDigits 5 wsL_law RX11 (some .boolean) D G ad) (n : Nat)    (res : (Int32 × St))  : ∀ (k : Nat) (v0 : Int64) (v2 : Int32) (v3 : Int32) (v4 : Int32)  (st : St), fX11_areDigits_L21 n k v0 v2 v3 v4 st = some res → At p l e (rmK 0) s m args below meth c D G ad (MQI D G ad below args s res) 5 st [(0, .long v0), (2, .int v2), (3, .int v3), (4, .int v4)] 21 [] := by
  intro k
  induction k with
  | zero => intro v0 v2 v3 v4  st h; exact absurd h (by intro q; cases q)
  | succ k ih => intro v0 v2 v3 v4  st h; exact wX11_areDigits_s21 C n (fX11_areDigits_L21 n k)  v0 v2 v3 v4   st res ih h
def fX11_areDigits_s18 (n : Nat)   (v0 : Int64) (v2 : Int32) (v3 : Int32) (st : St) : Option (Int32 × St) := fX11_areDigits_L21 n n v0 v2 v3 0 st
set_option maxHeartbeats 4000000 in
set_option maxRecDepth 100000 in
theorem wX11_areDigits_s18 (C : Cx p s m args meth c cX11_areDigits 5 wsL_law RX11 (some .boolean) D G ad) (n : Nat)   (v0 : Int64) (v2 : Int32) (v3 : Int32)   (st : St) (res : (Int32 × St))  (hf : fX11_areDigits_s18 n   v0 v2 v3 st = some res) : At p l e (rmK 0) s m args below meth c D G ad (MQI D G ad below args s res) 5 st [(0, .long v0), (2, .int v2), (3, .int v3)] 18 [] := by
  obtain ⟨hx, hb, hml, hown, hts, hr, hlk, hK, had, hSt⟩ := id C
  intro H locs ls hl hP hS
  unfold fX11_areDigits_s18 at hf
  refine lv_iconst (v := 0) hx hb dX11_areDigits_18 (by decide) ?_
  refine lv_istore (lv' := [(4, .int 0), (0, .long v0), (2, .int v2), (3, .int v3)]) hx hb dX11_areDigits_19 hl (by decide) rfl (fun ls hl => ?_)
  exact wX11_areDigits_L21 C n res n v0 v2 v3 0 st hf H locs ls (lv_sub hl [1, 2, 3, 0] rfl) hP hS
def fX11_areDigits_s6 (n : Nat)   (v0 : Int64) (v2 : Int32) (v3 : Int32) (st : St) : Option (Int32 × St) := if (v0 >>> ((4 * v2).toInt64 &&& 63)) = 0 then fX11_areDigits_s18 n v0 v2 v3 st else fX11_areDigits_s16 n st
set_option maxHeartbeats 4000000 in
set_option maxRecDepth 100000 in
theorem wX11_areDigits_s6 (C : Cx p s m args meth c cX11_areDigits 5 wsL_law RX11 (some .boolean) D G ad) (n : Nat)   (v0 : Int64) (v2 : Int32) (v3 : Int32)   (st : St) (res : (Int32 × St))  (hf : fX11_areDigits_s6 n   v0 v2 v3 st = some res) : At p l e (rmK 0) s m args below meth c D G ad (MQI D G ad below args s res) 5 st [(0, .long v0), (2, .int v2), (3, .int v3)] 6 [] := by
  obtain ⟨hx, hb, hml, hown, hts, hr, hlk, hK, had, hSt⟩ := id C
  intro H locs ls hl hP hS
  unfold fX11_areDigits_s6 at hf
  refine lv_lload_n hx hb dX11_areDigits_6 rfl (lv_at hl 0 rfl) ?_
  refine lv_iconst (v := 4) hx hb dX11_areDigits_7 (by decide) ?_
  refine lv_iload_n hx hb dX11_areDigits_8 rfl (lv_at hl 1 rfl) ?_
  refine lv_imul hx hb dX11_areDigits_9 ?_
  refine lv_lshr hx hb dX11_areDigits_10 rfl ?_
  refine lv_lconst (v := 0) hx hb dX11_areDigits_11 (by decide) ?_
  refine g_lcmp_eq (tgt := 18) hx hb dX11_areDigits_12 dX11_areDigits_13 (by decide) (fun q => ?_) (fun q => ?_)
  · exact wX11_areDigits_s18 C n v0 v2 v3 st res (it hf q) H locs ls (lv_sub hl [0, 1, 2] rfl) hP hS
  · exact wX11_areDigits_s16 C n st res (ie hf q) H locs ls (lv_sub hl [] rfl) hP hS
def fX11_areDigits_s0 (n : Nat)   (v0 : Int64) (v2 : Int32) (v3 : Int32) (st : St) : Option (Int32 × St) := if v0 < 0 then fX11_areDigits_s16 n st else fX11_areDigits_s6 n v0 v2 v3 st
set_option maxHeartbeats 4000000 in
set_option maxRecDepth 100000 in
theorem wX11_areDigits_s0 (C : Cx p s m args meth c cX11_areDigits 5 wsL_law RX11 (some .boolean) D G ad) (n : Nat)   (v0 : Int64) (v2 : Int32) (v3 : Int32)   (st : St) (res : (Int32 × St))  (hf : fX11_areDigits_s0 n   v0 v2 v3 st = some res) : At p l e (rmK 0) s m args below meth c D G ad (MQI D G ad below args s res) 5 st [(0, .long v0), (2, .int v2), (3, .int v3)] 0 [] := by
  obtain ⟨hx, hb, hml, hown, hts, hr, hlk, hK, had, hSt⟩ := id C
  intro H locs ls hl hP hS
  unfold fX11_areDigits_s0 at hf
  refine lv_lload_n hx hb dX11_areDigits_0 rfl (lv_at hl 0 rfl) ?_
  refine lv_lconst (v := 0) hx hb dX11_areDigits_1 (by decide) ?_
  refine g_lcmp_lt (tgt := 16) hx hb dX11_areDigits_2 dX11_areDigits_3 (by decide) (fun q => ?_) (fun q => ?_)
  · exact wX11_areDigits_s16 C n st res (it hf q) H locs ls (lv_sub hl [] rfl) hP hS
  · exact wX11_areDigits_s6 C n v0 v2 v3 st res (ie hf q) H locs ls (lv_sub hl [0, 1, 2] rfl) hP hS
def fX11_areDigits (n : Nat)  (a0 : Int64) (a2 : Int32) (a3 : Int32) (st : St) : Option (Int32 × St) := fX11_areDigits_s0 n a0 a2 a3 st
theorem okX11_areDigits : okY yX11_areDigits RX11 3 := by unfold okY; decide +kernel
end
set_option maxRecDepth 100000 in
theorem kX11_areDigits (l : Launch) (D : va_G) (G : G3) (ad : Nat → Nat) (had : Adr ad) (n : Nat)   (a0 : Int64) (a2 : Int32) (a3 : Int32) (st : St) (res : (Int32 × St)) (hf : fX11_areDigits n  a0 a2 a3 st = some res) {sz : Nat} : CtI l yX11_areDigits (wsU yX11_areDigits cX11_areDigits 5 (some .boolean)) (rmK 0) D G ad sz [.long a0, .int a2, .int a3] st res := by
  refine Met.ofW (cc := cX11_areDigits) (maxL := 5) (ret := (some .boolean)) (by decide) rfl ?_
  intro p e s m args below meth c s₁ B hml hv
  obtain ⟨rfl, hsz, hP, hK, hSt⟩ := hv
  have hts := atoms_spec (ws := wsU yX11_areDigits cX11_areDigits 5 (some .boolean)) B.pre
  have C : Cx p s m _ meth c cX11_areDigits 5 wsL_law RX11 (some .boolean) D G ad := ⟨B.exec, B.bytes, hml, findClass_of_methodNamed B.named, fun w h => hts w (List.mem_cons_of_mem _ h), B.returns, B.notSynchronized, hK, had, hSt⟩
  subst hsz
  have hl := lv_entry ([.long a0, .int a2, .int a3]) (n := 5) (Nat.le_of_ble_eq_true rfl)
  rw [lg_entry_eq]
  generalize (lg_sl ([.long a0, .int a2, .int a3]) ++ List.replicate (5 - (lg_sl ([.long a0, .int a2, .int a3])).length) Slot.unset).toArray = ls at hl ⊢
  exact wX11_areDigits_s0 C n  a0 a2 a3   st res hf s.heap [] ls (lv_sub hl [0, 1, 2] rfl) hP va_S.rf
section
variable {p : Program} {l : Launch} {e : Env} {s : State} {m : MethodId} {args : Array Value} {below : List Frame} {meth : Method} {c : Code} {D : va_G} {G : G3} {ad : Nat → Nat}
def fX11_areClaims_s55 (n : Nat)   (k0 : Int32) (st : St) : Option (Int32 × St) := if zb k0 = true then (some (k0, st)) else none
set_option maxHeartbeats 4000000 in
set_option maxRecDepth 100000 in
theorem wX11_areClaims_s55 (C : Cx p s m args meth c cX11_areClaims 6 wsL_law RX11 (some .boolean) D G ad) (n : Nat)   (k0 : Int32)   (st : St) (res : (Int32 × St))  (hf : fX11_areClaims_s55 n   k0 st = some res) : At p l e (rmK 1) s m args below meth c D G ad (MQI D G ad below args s res) 6 st [] 55 [.int k0] := by
  obtain ⟨hx, hb, hml, hown, hts, hr, hlk, hK, had, hSt⟩ := id C
  intro H locs ls hl hP hS
  unfold fX11_areClaims_s55 at hf
  obtain ⟨gz, hf⟩ := gd hf
  exact g_zret hx hb hr hlk hP hS (zb_of gz) dX11_areClaims_55 hf
def fX11_areClaims_s54 (n : Nat)    (st : St) : Option (Int32 × St) := fX11_areClaims_s55 n 0 st
set_option maxHeartbeats 4000000 in
set_option maxRecDepth 100000 in
theorem wX11_areClaims_s54 (C : Cx p s m args meth c cX11_areClaims 6 wsL_law RX11 (some .boolean) D G ad) (n : Nat)      (st : St) (res : (Int32 × St))  (hf : fX11_areClaims_s54 n    st = some res) : At p l e (rmK 1) s m args below meth c D G ad (MQI D G ad below args s res) 6 st [] 54 [] := by
  obtain ⟨hx, hb, hml, hown, hts, hr, hlk, hK, had, hSt⟩ := id C
  intro H locs ls hl hP hS
  unfold fX11_areClaims_s54 at hf
  refine lv_iconst (v := 0) hx hb dX11_areClaims_54 (by decide) ?_
  exact wX11_areClaims_s55 C n 0 st res hf H locs ls (lv_sub hl [] rfl) hP hS
def fX11_areClaims_s50 (n : Nat)    (st : St) : Option (Int32 × St) := fX11_areClaims_s55 n 1 st
set_option maxHeartbeats 4000000 in
set_option maxRecDepth 100000 in
theorem wX11_areClaims_s50 (C : Cx p s m args meth c cX11_areClaims 6 wsL_law RX11 (some .boolean) D G ad) (n : Nat)      (st : St) (res : (Int32 × St))  (hf : fX11_areClaims_s50 n    st = some res) : At p l e (rmK 1) s m args below meth c D G ad (MQI D G ad below args s res) 6 st [] 50 [] := by
  obtain ⟨hx, hb, hml, hown, hts, hr, hlk, hK, had, hSt⟩ := id C
  intro H locs ls hl hP hS
  unfold fX11_areClaims_s50 at hf
  refine lv_iconst (v := 1) hx hb dX11_areClaims_50 (by decide) ?_
  refine lv_goto (tgt := 55) hx hb dX11_areClaims_51 (by decide) ?_
  exact wX11_areClaims_s55 C n 1 st res hf H locs ls (lv_sub hl [] rfl) hP hS
def fX11_areClaims_s47 (n : Nat)   (k0 : Int32) (st : St) : Option (Int32 × St) := if k0 = 0 then fX11_areClaims_s54 n st else fX11_areClaims_s50 n st
set_option maxHeartbeats 4000000 in
set_option maxRecDepth 100000 in
theorem wX11_areClaims_s47 (C : Cx p s m args meth c cX11_areClaims 6 wsL_law RX11 (some .boolean) D G ad) (n : Nat)   (k0 : Int32)   (st : St) (res : (Int32 × St))  (hf : fX11_areClaims_s47 n   k0 st = some res) : At p l e (rmK 1) s m args below meth c D G ad (MQI D G ad below args s res) 6 st [] 47 [.int k0] := by
  obtain ⟨hx, hb, hml, hown, hts, hr, hlk, hK, had, hSt⟩ := id C
  intro H locs ls hl hP hS
  unfold fX11_areClaims_s47 at hf
  refine lv_if_eq (tgt := 54) hx hb dX11_areClaims_47 (by decide) (fun q => ?_) (fun q => ?_)
  · exact wX11_areClaims_s54 C n st res (it hf q) H locs ls (lv_sub hl [] rfl) hP hS
  · exact wX11_areClaims_s50 C n st res (ie hf q) H locs ls (lv_sub hl [] rfl) hP hS
def fX11_areClaims_s39 (n : Nat)   (v2 : Int64) (v4 : Int32) (v5 : Int32) (st : St) : Option (Int32 × St) := (fX11_areDigits n v2 v4 v5 st).bind (fun q => fX11_areClaims_s47 n q.1 q.2)
set_option maxHeartbeats 4000000 in
set_option maxRecDepth 100000 in
theorem wX11_areClaims_s39 (C : Cx p s m args meth c cX11_areClaims 6 wsL_law RX11 (some .boolean) D G ad) (n : Nat)   (v2 : Int64) (v4 : Int32) (v5 : Int32)   (st : St) (res : (Int32 × St))  (hf : fX11_areClaims_s39 n   v2 v4 v5 st = some res) : At p l e (rmK 1) s m args below meth c D G ad (MQI D G ad below args s res) 6 st [(2, .long v2), (4, .int v4), (5, .int v5)] 39 [] := by
  obtain ⟨hx, hb, hml, hown, hts, hr, hlk, hK, had, hSt⟩ := id C
  intro H locs ls hl hP hS
  unfold fX11_areClaims_s39 at hf
  refine lv_lload_n hx hb dX11_areClaims_39 rfl (lv_at hl 0 rfl) ?_
  refine lv_iload hx hb dX11_areClaims_40 (lv_at hl 1 rfl) ?_
  refine lv_iload hx hb dX11_areClaims_42 (lv_at hl 2 rfl) ?_
  obtain ⟨q, hq, hf⟩ := bd hf
  refine gcS_i (k := 0) (As := [.long v2, .int v4, .int v5]) (rest := []) hx hb hml hown hts hK hSt hP hS hl.1 (goodS wm_48_3 wm_48_4 wm_1_5 wm_48_5) okX11_areDigits (Nat.le_of_ble_eq_true rfl) (Nat.le_of_ble_eq_true rfl) rfl rfl (Nat.le_of_ble_eq_true rfl) dX11_areClaims_44 (kX11_areDigits l D G ad had n  v2 v4 v5 st q hq) (fun H locs hP hS => ?_)
  exact wX11_areClaims_s47 C n q.1 q.2 res hf H locs ls (lv_sub hl [] rfl) hP hS
def fX11_areClaims_s36 (n : Nat)   (v2 : Int64) (v4 : Int32) (v5 : Int32) (k0 : Int32) (st : St) : Option (Int32 × St) := if k0 = 0 then fX11_areClaims_s54 n st else fX11_areClaims_s39 n v2 v4 v5 st
set_option maxHeartbeats 4000000 in
set_option maxRecDepth 100000 in
theorem wX11_areClaims_s36 (C : Cx p s m args meth c cX11_areClaims 6 wsL_law RX11 (some .boolean) D G ad) (n : Nat)   (v2 : Int64) (v4 : Int32) (v5 : Int32) (k0 : Int32)   (st : St) (res : (Int32 × St))  (hf : fX11_areClaims_s36 n   v2 v4 v5 k0 st = some res) : At p l e (rmK 1) s m args below meth c D G ad (MQI D G ad below args s res) 6 st [(2, .long v2), (4, .int v4), (5, .int v5)] 36 [.int k0] := by
  obtain ⟨hx, hb, hml, hown, hts, hr, hlk, hK, had, hSt⟩ := id C
  intro H locs ls hl hP hS
  unfold fX11_areClaims_s36 at hf
  refine lv_if_eq (tgt := 54) hx hb dX11_areClaims_36 (by decide) (fun q => ?_) (fun q => ?_)
  · exact wX11_areClaims_s54 C n st res (it hf q) H locs ls (lv_sub hl [] rfl) hP hS
  · exact wX11_areClaims_s39 C n v2 v4 v5 st res (ie hf q) H locs ls (lv_sub hl [0, 1, 2] rfl) hP hS
def fX11_areClaims_s24 (n : Nat)   (v2 : Int64) (v4 : Int32) (v5 : Int32) (st : St) : Option (Int32 × St) := (fX11_in n v4.toInt64 2 4 st).bind (fun q => fX11_areClaims_s36 n v2 v4 v5 q.1 q.2)
set_option maxHeartbeats 4000000 in
set_option maxRecDepth 100000 in
theorem wX11_areClaims_s24 (C : Cx p s m args meth c cX11_areClaims 6 wsL_law RX11 (some .boolean) D G ad) (n : Nat)   (v2 : Int64) (v4 : Int32) (v5 : Int32)   (st : St) (res : (Int32 × St))  (hf : fX11_areClaims_s24 n   v2 v4 v5 st = some res) : At p l e (rmK 1) s m args below meth c D G ad (MQI D G ad below args s res) 6 st [(2, .long v2), (4, .int v4), (5, .int v5)] 24 [] := by
  obtain ⟨hx, hb, hml, hown, hts, hr, hlk, hK, had, hSt⟩ := id C
  intro H locs ls hl hP hS
  unfold fX11_areClaims_s24 at hf
  refine lv_iload hx hb dX11_areClaims_24 (lv_at hl 1 rfl) ?_
  refine lv_i2l hx hb dX11_areClaims_26 rfl ?_
  refine lv_ldc2 hx hb hown (hts _ wm_12_15) dX11_areClaims_27 ?_
  refine lv_ldc2 hx hb hown (hts _ wm_39_18) dX11_areClaims_30 ?_
  obtain ⟨q, hq, hf⟩ := bd hf
  refine gcS_i (k := 0) (As := [.long v4.toInt64, .long 2, .long 4]) (rest := []) hx hb hml hown hts hK hSt hP hS hl.1 (goodS wm_10_21 wm_10_22 wm_1_5 wm_10_23) okX11_in (Nat.le_of_ble_eq_true rfl) (Nat.le_of_ble_eq_true rfl) rfl rfl (Nat.le_of_ble_eq_true rfl) dX11_areClaims_33 (kX11_in l D G ad had n  v4.toInt64 2 4 st q hq) (fun H locs hP hS => ?_)
  exact wX11_areClaims_s36 C n v2 v4 v5 q.1 q.2 res hf H locs ls (lv_sub hl [0, 1, 2] rfl) hP hS
def fX11_areClaims_s21 (n : Nat)   (v2 : Int64) (v4 : Int32) (v5 : Int32) (k0 : Int32) (st : St) : Option (Int32 × St) := if k0 = 0 then fX11_areClaims_s54 n st else fX11_areClaims_s24 n v2 v4 v5 st
set_option maxHeartbeats 4000000 in
set_option maxRecDepth 100000 in
theorem wX11_areClaims_s21 (C : Cx p s m args meth c cX11_areClaims 6 wsL_law RX11 (some .boolean) D G ad) (n : Nat)   (v2 : Int64) (v4 : Int32) (v5 : Int32) (k0 : Int32)   (st : St) (res : (Int32 × St))  (hf : fX11_areClaims_s21 n   v2 v4 v5 k0 st = some res) : At p l e (rmK 1) s m args below meth c D G ad (MQI D G ad below args s res) 6 st [(2, .long v2), (4, .int v4), (5, .int v5)] 21 [.int k0] := by
  obtain ⟨hx, hb, hml, hown, hts, hr, hlk, hK, had, hSt⟩ := id C
  intro H locs ls hl hP hS
  unfold fX11_areClaims_s21 at hf
  refine lv_if_eq (tgt := 54) hx hb dX11_areClaims_21 (by decide) (fun q => ?_) (fun q => ?_)
  · exact wX11_areClaims_s54 C n st res (it hf q) H locs ls (lv_sub hl [] rfl) hP hS
  · exact wX11_areClaims_s24 C n v2 v4 v5 st res (ie hf q) H locs ls (lv_sub hl [0, 1, 2] rfl) hP hS
def fX11_areClaims_s12 (n : Nat)   (v1 : Int32) (v2 : Int64) (v4 : Int32) (v5 : Int32) (st : St) : Option (Int32 × St) := (fX11_in n v1.toInt64 0 40 st).bind (fun q => fX11_areClaims_s21 n v2 v4 v5 q.1 q.2)
set_option maxHeartbeats 4000000 in
set_option maxRecDepth 100000 in
theorem wX11_areClaims_s12 (C : Cx p s m args meth c cX11_areClaims 6 wsL_law RX11 (some .boolean) D G ad) (n : Nat)   (v1 : Int32) (v2 : Int64) (v4 : Int32) (v5 : Int32)   (st : St) (res : (Int32 × St))  (hf : fX11_areClaims_s12 n   v1 v2 v4 v5 st = some res) : At p l e (rmK 1) s m args below meth c D G ad (MQI D G ad below args s res) 6 st [(1, .int v1), (2, .long v2), (4, .int v4), (5, .int v5)] 12 [] := by
  obtain ⟨hx, hb, hml, hown, hts, hr, hlk, hK, had, hSt⟩ := id C
  intro H locs ls hl hP hS
  unfold fX11_areClaims_s12 at hf
  refine lv_iload_n hx hb dX11_areClaims_12 rfl (lv_at hl 0 rfl) ?_
  refine lv_i2l hx hb dX11_areClaims_13 rfl ?_
  refine lv_lconst (v := 0) hx hb dX11_areClaims_14 (by decide) ?_
  refine lv_ldc2 hx hb hown (hts _ wm_33_0) dX11_areClaims_15 ?_
  obtain ⟨q, hq, hf⟩ := bd hf
  refine gcS_i (k := 0) (As := [.long v1.toInt64, .long 0, .long 40]) (rest := []) hx hb hml hown hts hK hSt hP hS hl.1 (goodS wm_10_21 wm_10_22 wm_1_5 wm_10_23) okX11_in (Nat.le_of_ble_eq_true rfl) (Nat.le_of_ble_eq_true rfl) rfl rfl (Nat.le_of_ble_eq_true rfl) dX11_areClaims_18 (kX11_in l D G ad had n  v1.toInt64 0 40 st q hq) (fun H locs hP hS => ?_)
  exact wX11_areClaims_s21 C n v2 v4 v5 q.1 q.2 res hf H locs ls (lv_sub hl [1, 2, 3] rfl) hP hS
def fX11_areClaims_s9 (n : Nat)   (v1 : Int32) (v2 : Int64) (v4 : Int32) (v5 : Int32) (k0 : Int32) (st : St) : Option (Int32 × St) := if k0 = 0 then fX11_areClaims_s54 n st else fX11_areClaims_s12 n v1 v2 v4 v5 st
set_option maxHeartbeats 4000000 in
set_option maxRecDepth 100000 in
theorem wX11_areClaims_s9 (C : Cx p s m args meth c cX11_areClaims 6 wsL_law RX11 (some .boolean) D G ad) (n : Nat)   (v1 : Int32) (v2 : Int64) (v4 : Int32) (v5 : Int32) (k0 : Int32)   (st : St) (res : (Int32 × St))  (hf : fX11_areClaims_s9 n   v1 v2 v4 v5 k0 st = some res) : At p l e (rmK 1) s m args below meth c D G ad (MQI D G ad below args s res) 6 st [(1, .int v1), (2, .long v2), (4, .int v4), (5, .int v5)] 9 [.int k0] := by
  obtain ⟨hx, hb, hml, hown, hts, hr, hlk, hK, had, hSt⟩ := id C
  intro H locs ls hl hP hS
  unfold fX11_areClaims_s9 at hf
  refine lv_if_eq (tgt := 54) hx hb dX11_areClaims_9 (by decide) (fun q => ?_) (fun q => ?_)
  · exact wX11_areClaims_s54 C n st res (it hf q) H locs ls (lv_sub hl [] rfl) hP hS
  · exact wX11_areClaims_s12 C n v1 v2 v4 v5 st res (ie hf q) H locs ls (lv_sub hl [0, 1, 2, 3] rfl) hP hS
def fX11_areClaims_s0 (n : Nat)   (v0 : Int32) (v1 : Int32) (v2 : Int64) (v4 : Int32) (v5 : Int32) (st : St) : Option (Int32 × St) := (fX11_in n v0.toInt64 0 2 st).bind (fun q => fX11_areClaims_s9 n v1 v2 v4 v5 q.1 q.2)
set_option maxHeartbeats 4000000 in
set_option maxRecDepth 100000 in
theorem wX11_areClaims_s0 (C : Cx p s m args meth c cX11_areClaims 6 wsL_law RX11 (some .boolean) D G ad) (n : Nat)   (v0 : Int32) (v1 : Int32) (v2 : Int64) (v4 : Int32) (v5 : Int32)   (st : St) (res : (Int32 × St))  (hf : fX11_areClaims_s0 n   v0 v1 v2 v4 v5 st = some res) : At p l e (rmK 1) s m args below meth c D G ad (MQI D G ad below args s res) 6 st [(0, .int v0), (1, .int v1), (2, .long v2), (4, .int v4), (5, .int v5)] 0 [] := by
  obtain ⟨hx, hb, hml, hown, hts, hr, hlk, hK, had, hSt⟩ := id C
  intro H locs ls hl hP hS
  unfold fX11_areClaims_s0 at hf
  refine lv_iload_n hx hb dX11_areClaims_0 rfl (lv_at hl 0 rfl) ?_
  refine lv_i2l hx hb dX11_areClaims_1 rfl ?_
  refine lv_lconst (v := 0) hx hb dX11_areClaims_2 (by decide) ?_
  refine lv_ldc2 hx hb hown (hts _ wm_12_15) dX11_areClaims_3 ?_
  obtain ⟨q, hq, hf⟩ := bd hf
  refine gcS_i (k := 0) (As := [.long v0.toInt64, .long 0, .long 2]) (rest := []) hx hb hml hown hts hK hSt hP hS hl.1 (goodS wm_10_21 wm_10_22 wm_1_5 wm_10_23) okX11_in (Nat.le_of_ble_eq_true rfl) (Nat.le_of_ble_eq_true rfl) rfl rfl (Nat.le_of_ble_eq_true rfl) dX11_areClaims_6 (kX11_in l D G ad had n  v0.toInt64 0 2 st q hq) (fun H locs hP hS => ?_)
  exact wX11_areClaims_s9 C n v1 v2 v4 v5 q.1 q.2 res hf H locs ls (lv_sub hl [1, 2, 3, 4] rfl) hP hS
def fX11_areClaims (n : Nat)  (a0 : Int32) (a1 : Int32) (a2 : Int64) (a4 : Int32) (a5 : Int32) (st : St) : Option (Int32 × St) := fX11_areClaims_s0 n a0 a1 a2 a4 a5 st
theorem okX11_areClaims : okY yX11_areClaims RX11 5 := by unfold okY; decide +kernel
end
set_option maxRecDepth 100000 in
theorem kX11_areClaims (l : Launch) (D : va_G) (G : G3) (ad : Nat → Nat) (had : Adr ad) (n : Nat)   (a0 : Int32) (a1 : Int32) (a2 : Int64) (a4 : Int32) (a5 : Int32) (st : St) (res : (Int32 × St)) (hf : fX11_areClaims n  a0 a1 a2 a4 a5 st = some res) {sz : Nat} : CtI l yX11_areClaims (wsU yX11_areClaims cX11_areClaims 6 (some .boolean)) (rmK 1) D G ad sz [.int a0, .int a1, .long a2, .int a4, .int a5] st res := by
  refine Met.ofW (cc := cX11_areClaims) (maxL := 6) (ret := (some .boolean)) (by decide) rfl ?_
  intro p e s m args below meth c s₁ B hml hv
  obtain ⟨rfl, hsz, hP, hK, hSt⟩ := hv
  have hts := atoms_spec (ws := wsU yX11_areClaims cX11_areClaims 6 (some .boolean)) B.pre
  have C : Cx p s m _ meth c cX11_areClaims 6 wsL_law RX11 (some .boolean) D G ad := ⟨B.exec, B.bytes, hml, findClass_of_methodNamed B.named, fun w h => hts w (List.mem_cons_of_mem _ h), B.returns, B.notSynchronized, hK, had, hSt⟩
  subst hsz
  have hl := lv_entry ([.int a0, .int a1, .long a2, .int a4, .int a5]) (n := 6) (Nat.le_of_ble_eq_true rfl)
  rw [lg_entry_eq]
  generalize (lg_sl ([.int a0, .int a1, .long a2, .int a4, .int a5]) ++ List.replicate (6 - (lg_sl ([.int a0, .int a1, .long a2, .int a4, .int a5])).length) Slot.unset).toArray = ls at hl ⊢
  exact wX11_areClaims_s0 C n  a0 a1 a2 a4 a5   st res hf s.heap [] ls (lv_sub hl [0, 1, 2, 3, 4] rfl) hP va_S.rf
section
variable {p : Program} {l : Launch} {e : Env} {s : State} {m : MethodId} {args : Array Value} {below : List Frame} {meth : Method} {c : Code} {D : va_G} {G : G3} {ad : Nat → Nat}
def fX11_getsOne_s42 (n : Nat)   (v6 : Int32) (st : St) : Option (Int64 × St) := if inb v6 8 = true then (some (st.2 152 v6.toNatClampNeg, st)) else none
set_option maxHeartbeats 4000000 in
set_option maxRecDepth 100000 in
theorem wX11_getsOne_s42 (C : Cx p s m args meth c cX11_getsOne 8 wsL_law RX11 (some .long) D G ad) (n : Nat)   (v6 : Int32)   (st : St) (res : (Int64 × St))  (hf : fX11_getsOne_s42 n   v6 st = some res) : At p l e (rmK 1) s m args below meth c D G ad (MQJ D G ad below args s res) 8 st [(0, .ref (ad 130)), (6, .int v6)] 42 [] := by
  obtain ⟨hx, hb, hml, hown, hts, hr, hlk, hK, had, hSt⟩ := id C
  intro H locs ls hl hP hS
  unfold fX11_getsOne_s42 at hf
  refine lv_aload_n hx hb dX11_getsOne_42 rfl (lv_at hl 0 rfl) ?_
  refine g_getR hx hb hts inlX11 hown hK hP 130 ct_130 rfl 27 (by decide) (hts _ wm_7_23) rfl dX11_getsOne_43 ?_
  refine lv_iload hx hb dX11_getsOne_46 (lv_at hl 1 rfl) ?_
  obtain ⟨g1, hf⟩ := gd hf
  refine g_lald hx hb hK hP 152 ct_152 g1 dX11_getsOne_48 ?_
  exact g_lret hx hb hr hlk hP hS dX11_getsOne_49 hf
def fX11_getsOne_s33 (n : Nat)   (v1 : Int32) (v2 : Int32) (v5 : Int32) (v6 : Int32) (st : St) : Option (Int64 × St) := (fX11_shares n v1 v2.toInt64 v5 st).bind (fun q => fX11_getsOne_s42 n v6 q.2)
set_option maxHeartbeats 4000000 in
set_option maxRecDepth 100000 in
theorem wX11_getsOne_s33 (C : Cx p s m args meth c cX11_getsOne 8 wsL_law RX11 (some .long) D G ad) (n : Nat)   (v1 : Int32) (v2 : Int32) (v5 : Int32) (v6 : Int32)   (st : St) (res : (Int64 × St))  (hf : fX11_getsOne_s33 n   v1 v2 v5 v6 st = some res) : At p l e (rmK 1) s m args below meth c D G ad (MQJ D G ad below args s res) 8 st [(0, .ref (ad 130)), (1, .int v1), (2, .int v2), (5, .int v5), (6, .int v6)] 33 [] := by
  obtain ⟨hx, hb, hml, hown, hts, hr, hlk, hK, had, hSt⟩ := id C
  intro H locs ls hl hP hS
  unfold fX11_getsOne_s33 at hf
  refine lv_aload_n hx hb dX11_getsOne_33 rfl (lv_at hl 0 rfl) ?_
  refine lv_iload_n hx hb dX11_getsOne_34 rfl (lv_at hl 1 rfl) ?_
  refine lv_iload_n hx hb dX11_getsOne_35 rfl (lv_at hl 2 rfl) ?_
  refine lv_i2l hx hb dX11_getsOne_36 rfl ?_
  refine lv_iload hx hb dX11_getsOne_37 (lv_at hl 3 rfl) ?_
  obtain ⟨q, hq, hf⟩ := bd hf
  refine gcV_v (k := 0) (o := 130) (As := [.int v1, .long v2.toInt64, .int v5]) (rest := []) hx hb hml hown hts hK hSt hP hS hl.1 (goodV wm_23_3 wm_23_4 wm_23_5 wm_1_5 wm_23_6) okX11_shares ct_130 rfl rfl (Nat.le_of_ble_eq_true rfl) (Nat.le_of_ble_eq_true rfl) rfl rfl (Nat.le_of_ble_eq_true rfl) dX11_getsOne_39 (kX11_shares l D G ad had n  v1 v2.toInt64 v5 st q hq) (fun H locs hP hS => ?_)
  exact wX11_getsOne_s42 C n v6 q.2 res hf H locs ls (lv_sub hl [0, 4] rfl) hP hS
def fX11_getsOne_s27 (n : Nat) (K3 : Int32 → Int32 → Int64 → Int32 → Int32 → Int32 → St → Option (Int64 × St))  (v1 : Int32) (v2 : Int32) (v3 : Int64) (v5 : Int32) (v6 : Int32) (v7 : Int32) (st : St) : Option (Int64 × St) := K3 v1 v2 v3 v5 v6 (v7 + 1) st
set_option maxHeartbeats 4000000 in
set_option maxRecDepth 100000 in
theorem wX11_getsOne_s27 (C : Cx p s m args meth c cX11_getsOne 8 wsL_law RX11 (some .long) D G ad) (n : Nat) (K3 : Int32 → Int32 → Int64 → Int32 → Int32 → Int32 → St → Option (Int64 × St))  (v1 : Int32) (v2 : Int32) (v3 : Int64) (v5 : Int32) (v6 : Int32) (v7 : Int32)   (st : St) (res : (Int64 × St)) (hK3 : ∀ (v1 : Int32) (v2 : Int32) (v3 : Int64) (v5 : Int32) (v6 : Int32) (v7 : Int32) (st : St), K3 v1 v2 v3 v5 v6 v7 st = some res → At p l e (rmK 1) s m args below meth c D G ad (MQJ D G ad below args s res) 8 st [(0, .ref (ad 130)), (1, .int v1), (2, .int v2), (3, .long v3), (5, .int v5), (6, .int v6), (7, .int v7)] 3 []) (hf : fX11_getsOne_s27 n K3  v1 v2 v3 v5 v6 v7 st = some res) : At p l e (rmK 1) s m args below meth c D G ad (MQJ D G ad below args s res) 8 st [(0, .ref (ad 130)), (1, .int v1), (2, .int v2), (3, .long v3), (5, .int v5), (6, .int v6), (7, .int v7)] 27 [] := by
  obtain ⟨hx, hb, hml, hown, hts, hr, hlk, hK, had, hSt⟩ := id C
  intro H locs ls hl hP hS
  unfold fX11_getsOne_s27 at hf
  refine lv_iinc (v := v7 + 1) (lv' := [(7, .int (v7 + 1)), (0, .ref (ad 130)), (1, .int v1), (2, .int v2), (3, .long v3), (5, .int v5), (6, .int v6)]) hx hb dX11_getsOne_27 hl (k := 6) rfl rfl (by decide) rfl (fun ls hl => ?_)
  refine lv_goto (tgt := 3) hx hb dX11_getsOne_30 (by decide) ?_
  exact hK3 v1 v2 v3 v5 v6 (v7 + 1)  st hf H locs ls (lv_sub hl [1, 2, 3, 4, 5, 6, 0] rfl) hP hS
def fX11_getsOne_s10 (n : Nat) (K3 : Int32 → Int32 → Int64 → Int32 → Int32 → Int32 → St → Option (Int64 × St))  (v1 : Int32) (v2 : Int32) (v3 : Int64) (v5 : Int32) (v6 : Int32) (v7 : Int32) (st : St) : Option (Int64 × St) := if inb v7 8 = true then (fX11_getsOne_s27 n K3 v1 v2 v3 v5 v6 v7 (setJ st 151 v7.toNatClampNeg ((v3 >>> ((4 * v7).toInt64 &&& 63)) &&& 15))) else none
set_option maxHeartbeats 4000000 in
set_option maxRecDepth 100000 in
theorem wX11_getsOne_s10 (C : Cx p s m args meth c cX11_getsOne 8 wsL_law RX11 (some .long) D G ad) (n : Nat) (K3 : Int32 → Int32 → Int64 → Int32 → Int32 → Int32 → St → Option (Int64 × St))  (v1 : Int32) (v2 : Int32) (v3 : Int64) (v5 : Int32) (v6 : Int32) (v7 : Int32)   (st : St) (res : (Int64 × St)) (hK3 : ∀ (v1 : Int32) (v2 : Int32) (v3 : Int64) (v5 : Int32) (v6 : Int32) (v7 : Int32) (st : St), K3 v1 v2 v3 v5 v6 v7 st = some res → At p l e (rmK 1) s m args below meth c D G ad (MQJ D G ad below args s res) 8 st [(0, .ref (ad 130)), (1, .int v1), (2, .int v2), (3, .long v3), (5, .int v5), (6, .int v6), (7, .int v7)] 3 []) (hf : fX11_getsOne_s10 n K3  v1 v2 v3 v5 v6 v7 st = some res) : At p l e (rmK 1) s m args below meth c D G ad (MQJ D G ad below args s res) 8 st [(0, .ref (ad 130)), (1, .int v1), (2, .int v2), (3, .long v3), (5, .int v5), (6, .int v6), (7, .int v7)] 10 [] := by
  obtain ⟨hx, hb, hml, hown, hts, hr, hlk, hK, had, hSt⟩ := id C
  intro H locs ls hl hP hS
  unfold fX11_getsOne_s10 at hf
  refine lv_aload_n hx hb dX11_getsOne_10 rfl (lv_at hl 0 rfl) ?_
  refine g_getR hx hb hts inlX11 hown hK hP 130 ct_130 rfl 26 (by decide) (hts _ wm_7_22) rfl dX11_getsOne_11 ?_
  refine lv_iload hx hb dX11_getsOne_14 (lv_at hl 6 rfl) ?_
  refine lv_lload_n hx hb dX11_getsOne_16 rfl (lv_at hl 3 rfl) ?_
  refine lv_iconst (v := 4) hx hb dX11_getsOne_17 (by decide) ?_
  refine lv_iload hx hb dX11_getsOne_18 (lv_at hl 6 rfl) ?_
  refine lv_imul hx hb dX11_getsOne_20 ?_
  refine lv_lshr hx hb dX11_getsOne_21 rfl ?_
  refine lv_ldc2 hx hb hown (hts _ wm_48_6) dX11_getsOne_22 ?_
  refine lv_land hx hb dX11_getsOne_25 ?_
  obtain ⟨g1, hf⟩ := gd hf
  refine g_last hx hb hK had hP hS 151 ct_151 g1 dX11_getsOne_26 (fun H locs hP hS => ?_)
  exact wX11_getsOne_s27 C n K3 v1 v2 v3 v5 v6 v7 (setJ st 151 v7.toNatClampNeg ((v3 >>> ((4 * v7).toInt64 &&& 63)) &&& 15)) res hK3 hf H locs ls (lv_sub hl [0, 1, 2, 3, 4, 5, 6] rfl) hP hS
def fX11_getsOne_s3 (n : Nat) (K3 : Int32 → Int32 → Int64 → Int32 → Int32 → Int32 → St → Option (Int64 × St))  (v1 : Int32) (v2 : Int32) (v3 : Int64) (v5 : Int32) (v6 : Int32) (v7 : Int32) (st : St) : Option (Int64 × St) := if v5 ≤ v7 then fX11_getsOne_s33 n v1 v2 v5 v6 st else fX11_getsOne_s10 n K3 v1 v2 v3 v5 v6 v7 st
set_option maxHeartbeats 4000000 in
set_option maxRecDepth 100000 in
theorem wX11_getsOne_s3 (C : Cx p s m args meth c cX11_getsOne 8 wsL_law RX11 (some .long) D G ad) (n : Nat) (K3 : Int32 → Int32 → Int64 → Int32 → Int32 → Int32 → St → Option (Int64 × St))  (v1 : Int32) (v2 : Int32) (v3 : Int64) (v5 : Int32) (v6 : Int32) (v7 : Int32)   (st : St) (res : (Int64 × St)) (hK3 : ∀ (v1 : Int32) (v2 : Int32) (v3 : Int64) (v5 : Int32) (v6 : Int32) (v7 : Int32) (st : St), K3 v1 v2 v3 v5 v6 v7 st = some res → At p l e (rmK 1) s m args below meth c D G ad (MQJ D G ad below args s res) 8 st [(0, .ref (ad 130)), (1, .int v1), (2, .int v2), (3, .long v3), (5, .int v5), (6, .int v6), (7, .int v7)] 3 []) (hf : fX11_getsOne_s3 n K3  v1 v2 v3 v5 v6 v7 st = some res) : At p l e (rmK 1) s m args below meth c D G ad (MQJ D G ad below args s res) 8 st [(0, .ref (ad 130)), (1, .int v1), (2, .int v2), (3, .long v3), (5, .int v5), (6, .int v6), (7, .int v7)] 3 [] := by
  obtain ⟨hx, hb, hml, hown, hts, hr, hlk, hK, had, hSt⟩ := id C
  intro H locs ls hl hP hS
  unfold fX11_getsOne_s3 at hf
  refine lv_iload hx hb dX11_getsOne_3 (lv_at hl 6 rfl) ?_
  refine lv_iload hx hb dX11_getsOne_5 (lv_at hl 4 rfl) ?_
  refine lv_icmp_ge (tgt := 33) hx hb dX11_getsOne_7 (by decide) (fun q => ?_) (fun q => ?_)
  · exact wX11_getsOne_s33 C n v1 v2 v5 v6 st res (it hf q) H locs ls (lv_sub hl [0, 1, 2, 4, 5] rfl) hP hS
  · exact wX11_getsOne_s10 C n K3 v1 v2 v3 v5 v6 v7 st res hK3 (ie hf q) H locs ls (lv_sub hl [0, 1, 2, 3, 4, 5, 6] rfl) hP hS
def fX11_getsOne_L3 (n : Nat)   : Nat → Int32 → Int32 → Int64 → Int32 → Int32 → Int32 → St → Option (Int64 × St)
  | 0, _, _, _, _, _, _, _ => none
  | k + 1, v1, v2, v3, v5, v6, v7, st => fX11_getsOne_s3 n (fX11_getsOne_L3 n k)  v1 v2 v3 v5 v6 v7 st
theorem wX11_getsOne_L3 (C : Cx p s m args meth c cX11_getsOne 8 wsL_law RX11 (some .long) D G ad) (n : Nat)    (res : (Int64 × St))  : ∀ (k : Nat) (v1 : Int32) (v2 : Int32) (v3 : Int64) (v5 : Int32) (v6 : Int32) (v7 : Int32)  (st : St), fX11_getsOne_L3 n k v1 v2 v3 v5 v6 v7 st = some res → At p l e (rmK 1) s m args below meth c D G ad (MQJ D G ad below args s res) 8 st [(0, .ref (ad 130)), (1, .int v1), (2, .int v2), (3, .long v3), (5, .int v5), (6, .int v6), (7, .int v7)] 3 [] := by
  intro k
  induction k with
  | zero => intro v1 v2 v3 v5 v6 v7  st h; exact absurd h (by intro q; cases q)
  | succ k ih => intro v1 v2 v3 v5 v6 v7  st h; exact wX11_getsOne_s3 C n (fX11_getsOne_L3 n k)  v1 v2 v3 v5 v6 v7   st res ih h
def fX11_getsOne_s0 (n : Nat)   (v1 : Int32) (v2 : Int32) (v3 : Int64) (v5 : Int32) (v6 : Int32) (st : St) : Option (Int64 × St) := fX11_getsOne_L3 n n v1 v2 v3 v5 v6 0 st
set_option maxHeartbeats 4000000 in
set_option maxRecDepth 100000 in
theorem wX11_getsOne_s0 (C : Cx p s m args meth c cX11_getsOne 8 wsL_law RX11 (some .long) D G ad) (n : Nat)   (v1 : Int32) (v2 : Int32) (v3 : Int64) (v5 : Int32) (v6 : Int32)   (st : St) (res : (Int64 × St))  (hf : fX11_getsOne_s0 n   v1 v2 v3 v5 v6 st = some res) : At p l e (rmK 1) s m args below meth c D G ad (MQJ D G ad below args s res) 8 st [(0, .ref (ad 130)), (1, .int v1), (2, .int v2), (3, .long v3), (5, .int v5), (6, .int v6)] 0 [] := by
  obtain ⟨hx, hb, hml, hown, hts, hr, hlk, hK, had, hSt⟩ := id C
  intro H locs ls hl hP hS
  unfold fX11_getsOne_s0 at hf
  refine lv_iconst (v := 0) hx hb dX11_getsOne_0 (by decide) ?_
  refine lv_istore (lv' := [(7, .int 0), (0, .ref (ad 130)), (1, .int v1), (2, .int v2), (3, .long v3), (5, .int v5), (6, .int v6)]) hx hb dX11_getsOne_1 hl (by decide) rfl (fun ls hl => ?_)
  exact wX11_getsOne_L3 C n res n v1 v2 v3 v5 v6 0 st hf H locs ls (lv_sub hl [1, 2, 3, 4, 5, 6, 0] rfl) hP hS
def fX11_getsOne (n : Nat)  (a1 : Int32) (a2 : Int32) (a3 : Int64) (a5 : Int32) (a6 : Int32) (st : St) : Option (Int64 × St) := fX11_getsOne_s0 n a1 a2 a3 a5 a6 st
theorem okX11_getsOne : okY yX11_getsOne RX11 5 := by unfold okY; decide +kernel
end
set_option maxRecDepth 100000 in
theorem kX11_getsOne (l : Launch) (D : va_G) (G : G3) (ad : Nat → Nat) (had : Adr ad) (n : Nat)   (a1 : Int32) (a2 : Int32) (a3 : Int64) (a5 : Int32) (a6 : Int32) (st : St) (res : (Int64 × St)) (hf : fX11_getsOne n  a1 a2 a3 a5 a6 st = some res) {sz : Nat} : CtJ l yX11_getsOne (wsU yX11_getsOne cX11_getsOne 8 (some .long)) (rmK 1) D G ad sz [.ref (ad 130), .int a1, .int a2, .long a3, .int a5, .int a6] st res := by
  refine Met.ofW (cc := cX11_getsOne) (maxL := 8) (ret := (some .long)) (by decide) rfl ?_
  intro p e s m args below meth c s₁ B hml hv
  obtain ⟨rfl, hsz, hP, hK, hSt⟩ := hv
  have hts := atoms_spec (ws := wsU yX11_getsOne cX11_getsOne 8 (some .long)) B.pre
  have C : Cx p s m _ meth c cX11_getsOne 8 wsL_law RX11 (some .long) D G ad := ⟨B.exec, B.bytes, hml, findClass_of_methodNamed B.named, fun w h => hts w (List.mem_cons_of_mem _ h), B.returns, B.notSynchronized, hK, had, hSt⟩
  subst hsz
  have hl := lv_entry ([.ref (ad 130), .int a1, .int a2, .long a3, .int a5, .int a6]) (n := 8) (Nat.le_of_ble_eq_true rfl)
  rw [lg_entry_eq]
  generalize (lg_sl ([.ref (ad 130), .int a1, .int a2, .long a3, .int a5, .int a6]) ++ List.replicate (8 - (lg_sl ([.ref (ad 130), .int a1, .int a2, .long a3, .int a5, .int a6])).length) Slot.unset).toArray = ls at hl ⊢
  exact wX11_getsOne_s0 C n  a1 a2 a3 a5 a6   st res hf s.heap [] ls (lv_sub hl [0, 1, 2, 3, 4, 5] rfl) hP va_S.rf
section
variable {p : Program} {l : Launch} {e : Env} {s : State} {m : MethodId} {args : Array Value} {below : List Frame} {meth : Method} {c : Code} {D : va_G} {G : G3} {ad : Nat → Nat}
def fX11_gets_s12 (n : Nat)    (st : St) : Option (Int32 × St) := some ((-1), st)
set_option maxHeartbeats 4000000 in
set_option maxRecDepth 100000 in
theorem wX11_gets_s12 (C : Cx p s m args meth c cX11_gets 7 wsL_law RX11 (some .int) D G ad) (n : Nat)      (st : St) (res : (Int32 × St))  (hf : fX11_gets_s12 n    st = some res) : At p l e (rmK 2) s m args below meth c D G ad (MQI D G ad below args s res) 7 st [] 12 [] := by
  obtain ⟨hx, hb, hml, hown, hts, hr, hlk, hK, had, hSt⟩ := id C
  intro H locs ls hl hP hS
  unfold fX11_gets_s12 at hf
  refine lv_iconst (v := (-1)) hx hb dX11_gets_12 (by decide) ?_
  exact g_iret hx hb hr hlk hP hS dX11_gets_13 hf
def fX11_gets_s44 (n : Nat)   (k0 : Int32) (st : St) : Option (Int32 × St) := some (k0, st)
set_option maxHeartbeats 4000000 in
set_option maxRecDepth 100000 in
theorem wX11_gets_s44 (C : Cx p s m args meth c cX11_gets 7 wsL_law RX11 (some .int) D G ad) (n : Nat)   (k0 : Int32)   (st : St) (res : (Int32 × St))  (hf : fX11_gets_s44 n   k0 st = some res) : At p l e (rmK 2) s m args below meth c D G ad (MQI D G ad below args s res) 7 st [] 44 [.int k0] := by
  obtain ⟨hx, hb, hml, hown, hts, hr, hlk, hK, had, hSt⟩ := id C
  intro H locs ls hl hP hS
  unfold fX11_gets_s44 at hf
  exact g_iret hx hb hr hlk hP hS dX11_gets_44 hf
def fX11_gets_s42 (n : Nat)    (st : St) : Option (Int32 × St) := fX11_gets_s44 n (-2) st
set_option maxHeartbeats 4000000 in
set_option maxRecDepth 100000 in
theorem wX11_gets_s42 (C : Cx p s m args meth c cX11_gets 7 wsL_law RX11 (some .int) D G ad) (n : Nat)      (st : St) (res : (Int32 × St))  (hf : fX11_gets_s42 n    st = some res) : At p l e (rmK 2) s m args below meth c D G ad (MQI D G ad below args s res) 7 st [] 42 [] := by
  obtain ⟨hx, hb, hml, hown, hts, hr, hlk, hK, had, hSt⟩ := id C
  intro H locs ls hl hP hS
  unfold fX11_gets_s42 at hf
  refine lv_bipush (v := (-2)) hx hb dX11_gets_42 (by decide) ?_
  exact wX11_gets_s44 C n (-2) st res hf H locs ls (lv_sub hl [] rfl) hP hS
def fX11_gets_s38 (n : Nat)   (k0 : Int64) (st : St) : Option (Int32 × St) := fX11_gets_s44 n k0.toInt32 st
set_option maxHeartbeats 4000000 in
set_option maxRecDepth 100000 in
theorem wX11_gets_s38 (C : Cx p s m args meth c cX11_gets 7 wsL_law RX11 (some .int) D G ad) (n : Nat)   (k0 : Int64)   (st : St) (res : (Int32 × St))  (hf : fX11_gets_s38 n   k0 st = some res) : At p l e (rmK 2) s m args below meth c D G ad (MQI D G ad below args s res) 7 st [] 38 [.long k0] := by
  obtain ⟨hx, hb, hml, hown, hts, hr, hlk, hK, had, hSt⟩ := id C
  intro H locs ls hl hP hS
  unfold fX11_gets_s38 at hf
  refine lv_l2i hx hb dX11_gets_38 rfl ?_
  refine lv_goto (tgt := 44) hx hb dX11_gets_39 (by decide) ?_
  exact wX11_gets_s44 C n k0.toInt32 st res hf H locs ls (lv_sub hl [] rfl) hP hS
def fX11_gets_s27 (n : Nat)   (v1 : Int32) (v2 : Int32) (v3 : Int64) (v5 : Int32) (v6 : Int32) (st : St) : Option (Int32 × St) := (fX11_getsOne n v1 v2 v3 v5 v6 st).bind (fun q => fX11_gets_s38 n q.1 q.2)
set_option maxHeartbeats 4000000 in
set_option maxRecDepth 100000 in
theorem wX11_gets_s27 (C : Cx p s m args meth c cX11_gets 7 wsL_law RX11 (some .int) D G ad) (n : Nat)   (v1 : Int32) (v2 : Int32) (v3 : Int64) (v5 : Int32) (v6 : Int32)   (st : St) (res : (Int32 × St))  (hf : fX11_gets_s27 n   v1 v2 v3 v5 v6 st = some res) : At p l e (rmK 2) s m args below meth c D G ad (MQI D G ad below args s res) 7 st [(0, .ref (ad 130)), (1, .int v1), (2, .int v2), (3, .long v3), (5, .int v5), (6, .int v6)] 27 [] := by
  obtain ⟨hx, hb, hml, hown, hts, hr, hlk, hK, had, hSt⟩ := id C
  intro H locs ls hl hP hS
  unfold fX11_gets_s27 at hf
  refine lv_aload_n hx hb dX11_gets_27 rfl (lv_at hl 0 rfl) ?_
  refine lv_iload_n hx hb dX11_gets_28 rfl (lv_at hl 1 rfl) ?_
  refine lv_iload_n hx hb dX11_gets_29 rfl (lv_at hl 2 rfl) ?_
  refine lv_lload_n hx hb dX11_gets_30 rfl (lv_at hl 3 rfl) ?_
  refine lv_iload hx hb dX11_gets_31 (lv_at hl 4 rfl) ?_
  refine lv_iload hx hb dX11_gets_33 (lv_at hl 5 rfl) ?_
  obtain ⟨q, hq, hf⟩ := bd hf
  refine gcV_j (k := 1) (o := 130) (As := [.int v1, .int v2, .long v3, .int v5, .int v6]) (rest := []) hx hb hml hown hts hK hSt hP hS hl.1 (goodV wm_48_7 wm_48_8 wm_48_9 wm_1_5 wm_48_10) okX11_getsOne ct_130 rfl rfl (Nat.le_of_ble_eq_true rfl) (Nat.le_of_ble_eq_true rfl) rfl rfl (Nat.le_of_ble_eq_true rfl) dX11_gets_35 (kX11_getsOne l D G ad had n  v1 v2 v3 v5 v6 st q hq) (fun H locs hP hS => ?_)
  exact wX11_gets_s38 C n q.1 q.2 res hf H locs ls (lv_sub hl [] rfl) hP hS
def fX11_gets_s24 (n : Nat)   (v1 : Int32) (v2 : Int32) (v3 : Int64) (v5 : Int32) (v6 : Int32) (k0 : Int32) (st : St) : Option (Int32 × St) := if k0 = 0 then fX11_gets_s42 n st else fX11_gets_s27 n v1 v2 v3 v5 v6 st
set_option maxHeartbeats 4000000 in
set_option maxRecDepth 100000 in
theorem wX11_gets_s24 (C : Cx p s m args meth c cX11_gets 7 wsL_law RX11 (some .int) D G ad) (n : Nat)   (v1 : Int32) (v2 : Int32) (v3 : Int64) (v5 : Int32) (v6 : Int32) (k0 : Int32)   (st : St) (res : (Int32 × St))  (hf : fX11_gets_s24 n   v1 v2 v3 v5 v6 k0 st = some res) : At p l e (rmK 2) s m args below meth c D G ad (MQI D G ad below args s res) 7 st [(0, .ref (ad 130)), (1, .int v1), (2, .int v2), (3, .long v3), (5, .int v5), (6, .int v6)] 24 [.int k0] := by
  obtain ⟨hx, hb, hml, hown, hts, hr, hlk, hK, had, hSt⟩ := id C
  intro H locs ls hl hP hS
  unfold fX11_gets_s24 at hf
  refine lv_if_eq (tgt := 42) hx hb dX11_gets_24 (by decide) (fun q => ?_) (fun q => ?_)
  · exact wX11_gets_s42 C n st res (it hf q) H locs ls (lv_sub hl [] rfl) hP hS
  · exact wX11_gets_s27 C n v1 v2 v3 v5 v6 st res (ie hf q) H locs ls (lv_sub hl [0, 1, 2, 3, 4, 5] rfl) hP hS
def fX11_gets_s14 (n : Nat)   (v1 : Int32) (v2 : Int32) (v3 : Int64) (v5 : Int32) (v6 : Int32) (st : St) : Option (Int32 × St) := (fX11_areClaims n v1 v2 v3 v5 12 st).bind (fun q => fX11_gets_s24 n v1 v2 v3 v5 v6 q.1 q.2)
set_option maxHeartbeats 4000000 in
set_option maxRecDepth 100000 in
theorem wX11_gets_s14 (C : Cx p s m args meth c cX11_gets 7 wsL_law RX11 (some .int) D G ad) (n : Nat)   (v1 : Int32) (v2 : Int32) (v3 : Int64) (v5 : Int32) (v6 : Int32)   (st : St) (res : (Int32 × St))  (hf : fX11_gets_s14 n   v1 v2 v3 v5 v6 st = some res) : At p l e (rmK 2) s m args below meth c D G ad (MQI D G ad below args s res) 7 st [(0, .ref (ad 130)), (1, .int v1), (2, .int v2), (3, .long v3), (5, .int v5), (6, .int v6)] 14 [] := by
  obtain ⟨hx, hb, hml, hown, hts, hr, hlk, hK, had, hSt⟩ := id C
  intro H locs ls hl hP hS
  unfold fX11_gets_s14 at hf
  refine lv_iload_n hx hb dX11_gets_14 rfl (lv_at hl 1 rfl) ?_
  refine lv_iload_n hx hb dX11_gets_15 rfl (lv_at hl 2 rfl) ?_
  refine lv_lload_n hx hb dX11_gets_16 rfl (lv_at hl 3 rfl) ?_
  refine lv_iload hx hb dX11_gets_17 (lv_at hl 4 rfl) ?_
  refine lv_bipush (v := 12) hx hb dX11_gets_19 (by decide) ?_
  obtain ⟨q, hq, hf⟩ := bd hf
  refine gcS_i (k := 1) (As := [.int v1, .int v2, .long v3, .int v5, .int 12]) (rest := []) hx hb hml hown hts hK hSt hP hS hl.1 (goodS wm_48_0 wm_48_1 wm_1_5 wm_48_2) okX11_areClaims (Nat.le_of_ble_eq_true rfl) (Nat.le_of_ble_eq_true rfl) rfl rfl (Nat.le_of_ble_eq_true rfl) dX11_gets_21 (kX11_areClaims l D G ad had n  v1 v2 v3 v5 12 st q hq) (fun H locs hP hS => ?_)
  exact wX11_gets_s24 C n v1 v2 v3 v5 v6 q.1 q.2 res hf H locs ls (lv_sub hl [0, 1, 2, 3, 4, 5] rfl) hP hS
def fX11_gets_s5 (n : Nat)   (v1 : Int32) (v2 : Int32) (v3 : Int64) (v5 : Int32) (v6 : Int32) (st : St) : Option (Int32 × St) := if v6 < v5 then fX11_gets_s14 n v1 v2 v3 v5 v6 st else fX11_gets_s12 n st
set_option maxHeartbeats 4000000 in
set_option maxRecDepth 100000 in
theorem wX11_gets_s5 (C : Cx p s m args meth c cX11_gets 7 wsL_law RX11 (some .int) D G ad) (n : Nat)   (v1 : Int32) (v2 : Int32) (v3 : Int64) (v5 : Int32) (v6 : Int32)   (st : St) (res : (Int32 × St))  (hf : fX11_gets_s5 n   v1 v2 v3 v5 v6 st = some res) : At p l e (rmK 2) s m args below meth c D G ad (MQI D G ad below args s res) 7 st [(0, .ref (ad 130)), (1, .int v1), (2, .int v2), (3, .long v3), (5, .int v5), (6, .int v6)] 5 [] := by
  obtain ⟨hx, hb, hml, hown, hts, hr, hlk, hK, had, hSt⟩ := id C
  intro H locs ls hl hP hS
  unfold fX11_gets_s5 at hf
  refine lv_iload hx hb dX11_gets_5 (lv_at hl 5 rfl) ?_
  refine lv_iload hx hb dX11_gets_7 (lv_at hl 4 rfl) ?_
  refine lv_icmp_lt (tgt := 14) hx hb dX11_gets_9 (by decide) (fun q => ?_) (fun q => ?_)
  · exact wX11_gets_s14 C n v1 v2 v3 v5 v6 st res (it hf q) H locs ls (lv_sub hl [0, 1, 2, 3, 4, 5] rfl) hP hS
  · exact wX11_gets_s12 C n st res (ie hf q) H locs ls (lv_sub hl [] rfl) hP hS
def fX11_gets_s0 (n : Nat)   (v1 : Int32) (v2 : Int32) (v3 : Int64) (v5 : Int32) (v6 : Int32) (st : St) : Option (Int32 × St) := if v6 < 0 then fX11_gets_s12 n st else fX11_gets_s5 n v1 v2 v3 v5 v6 st
set_option maxHeartbeats 4000000 in
set_option maxRecDepth 100000 in
theorem wX11_gets_s0 (C : Cx p s m args meth c cX11_gets 7 wsL_law RX11 (some .int) D G ad) (n : Nat)   (v1 : Int32) (v2 : Int32) (v3 : Int64) (v5 : Int32) (v6 : Int32)   (st : St) (res : (Int32 × St))  (hf : fX11_gets_s0 n   v1 v2 v3 v5 v6 st = some res) : At p l e (rmK 2) s m args below meth c D G ad (MQI D G ad below args s res) 7 st [(0, .ref (ad 130)), (1, .int v1), (2, .int v2), (3, .long v3), (5, .int v5), (6, .int v6)] 0 [] := by
  obtain ⟨hx, hb, hml, hown, hts, hr, hlk, hK, had, hSt⟩ := id C
  intro H locs ls hl hP hS
  unfold fX11_gets_s0 at hf
  refine lv_iload hx hb dX11_gets_0 (lv_at hl 5 rfl) ?_
  refine lv_if_lt (tgt := 12) hx hb dX11_gets_2 (by decide) (fun q => ?_) (fun q => ?_)
  · exact wX11_gets_s12 C n st res (it hf q) H locs ls (lv_sub hl [] rfl) hP hS
  · exact wX11_gets_s5 C n v1 v2 v3 v5 v6 st res (ie hf q) H locs ls (lv_sub hl [0, 1, 2, 3, 4, 5] rfl) hP hS
def fX11_gets (n : Nat)  (a1 : Int32) (a2 : Int32) (a3 : Int64) (a5 : Int32) (a6 : Int32) (st : St) : Option (Int32 × St) := fX11_gets_s0 n a1 a2 a3 a5 a6 st
theorem okX11_gets : okY yX11_gets RX11 5 := by unfold okY; decide +kernel
end
set_option maxRecDepth 100000 in
theorem kX11_gets (l : Launch) (D : va_G) (G : G3) (ad : Nat → Nat) (had : Adr ad) (n : Nat)   (a1 : Int32) (a2 : Int32) (a3 : Int64) (a5 : Int32) (a6 : Int32) (st : St) (res : (Int32 × St)) (hf : fX11_gets n  a1 a2 a3 a5 a6 st = some res) {sz : Nat} : CtI l yX11_gets (wsU yX11_gets cX11_gets 7 (some .int)) (rmK 2) D G ad sz [.ref (ad 130), .int a1, .int a2, .long a3, .int a5, .int a6] st res := by
  refine Met.ofW (cc := cX11_gets) (maxL := 7) (ret := (some .int)) (by decide) rfl ?_
  intro p e s m args below meth c s₁ B hml hv
  obtain ⟨rfl, hsz, hP, hK, hSt⟩ := hv
  have hts := atoms_spec (ws := wsU yX11_gets cX11_gets 7 (some .int)) B.pre
  have C : Cx p s m _ meth c cX11_gets 7 wsL_law RX11 (some .int) D G ad := ⟨B.exec, B.bytes, hml, findClass_of_methodNamed B.named, fun w h => hts w (List.mem_cons_of_mem _ h), B.returns, B.notSynchronized, hK, had, hSt⟩
  subst hsz
  have hl := lv_entry ([.ref (ad 130), .int a1, .int a2, .long a3, .int a5, .int a6]) (n := 7) (Nat.le_of_ble_eq_true rfl)
  rw [lg_entry_eq]
  generalize (lg_sl ([.ref (ad 130), .int a1, .int a2, .long a3, .int a5, .int a6]) ++ List.replicate (7 - (lg_sl ([.ref (ad 130), .int a1, .int a2, .long a3, .int a5, .int a6])).length) Slot.unset).toArray = ls at hl ⊢
  exact wX11_gets_s0 C n  a1 a2 a3 a5 a6   st res hf s.heap [] ls (lv_sub hl [0, 1, 2, 3, 4, 5] rfl) hP va_S.rf
section
variable {p : Program} {l : Launch} {e : Env} {s : State} {m : MethodId} {args : Array Value} {below : List Frame} {meth : Method} {c : Code} {D : va_G} {G : G3} {ad : Nat → Nat}
def fX11_isCalm_s120 (n : Nat)    (st : St) : Option (Int32 × St) := some (1, st)
set_option maxHeartbeats 4000000 in
set_option maxRecDepth 100000 in
theorem wX11_isCalm_s120 (C : Cx p s m args meth c cX11_isCalm 17 wsL_law RX11 (some .boolean) D G ad) (n : Nat)      (st : St) (res : (Int32 × St))  (hf : fX11_isCalm_s120 n    st = some res) : At p l e (rmK 2) s m args below meth c D G ad (MQI D G ad below args s res) 17 st [] 120 [] := by
  obtain ⟨hx, hb, hml, hown, hts, hr, hlk, hK, had, hSt⟩ := id C
  intro H locs ls hl hP hS
  unfold fX11_isCalm_s120 at hf
  refine lv_iconst (v := 1) hx hb dX11_isCalm_120 (by decide) ?_
  exact g_zret hx hb hr hlk hP hS (Or.inr rfl) dX11_isCalm_121 hf
def fX11_isCalm_s114 (n : Nat) (K3 : Int32 → Int32 → Int64 → Int64 → Int32 → Int32 → St → Option (Int32 × St))  (v1 : Int32) (v2 : Int32) (v3 : Int64) (v5 : Int64) (v7 : Int32) (v8 : Int32) (st : St) : Option (Int32 × St) := K3 v1 v2 v3 v5 v7 (v8 + 1) st
set_option maxHeartbeats 4000000 in
set_option maxRecDepth 100000 in
theorem wX11_isCalm_s114 (C : Cx p s m args meth c cX11_isCalm 17 wsL_law RX11 (some .boolean) D G ad) (n : Nat) (K3 : Int32 → Int32 → Int64 → Int64 → Int32 → Int32 → St → Option (Int32 × St))  (v1 : Int32) (v2 : Int32) (v3 : Int64) (v5 : Int64) (v7 : Int32) (v8 : Int32)   (st : St) (res : (Int32 × St)) (hK3 : ∀ (v1 : Int32) (v2 : Int32) (v3 : Int64) (v5 : Int64) (v7 : Int32) (v8 : Int32) (st : St), K3 v1 v2 v3 v5 v7 v8 st = some res → At p l e (rmK 2) s m args below meth c D G ad (MQI D G ad below args s res) 17 st [(0, .ref (ad 130)), (1, .int v1), (2, .int v2), (3, .long v3), (5, .long v5), (7, .int v7), (8, .int v8)] 3 []) (hf : fX11_isCalm_s114 n K3  v1 v2 v3 v5 v7 v8 st = some res) : At p l e (rmK 2) s m args below meth c D G ad (MQI D G ad below args s res) 17 st [(0, .ref (ad 130)), (1, .int v1), (2, .int v2), (3, .long v3), (5, .long v5), (7, .int v7), (8, .int v8)] 114 [] := by
  obtain ⟨hx, hb, hml, hown, hts, hr, hlk, hK, had, hSt⟩ := id C
  intro H locs ls hl hP hS
  unfold fX11_isCalm_s114 at hf
  refine lv_iinc (v := v8 + 1) (lv' := [(8, .int (v8 + 1)), (0, .ref (ad 130)), (1, .int v1), (2, .int v2), (3, .long v3), (5, .long v5), (7, .int v7)]) hx hb dX11_isCalm_114 hl (k := 6) rfl rfl (by decide) rfl (fun ls hl => ?_)
  refine lv_goto (tgt := 3) hx hb dX11_isCalm_117 (by decide) ?_
  exact hK3 v1 v2 v3 v5 v7 (v8 + 1)  st hf H locs ls (lv_sub hl [1, 2, 3, 4, 5, 6, 0] rfl) hP hS
def fX11_isCalm_s105 (n : Nat) (K3 : Int32 → Int32 → Int64 → Int64 → Int32 → Int32 → St → Option (Int32 × St)) (K45 : Int32 → Int32 → Int64 → Int64 → Int32 → Int32 → Int64 → Int64 → Int64 → St → Option (Int32 × St))  (v1 : Int32) (v2 : Int32) (v3 : Int64) (v5 : Int64) (v7 : Int32) (v8 : Int32) (v9 : Int64) (v11 : Int64) (v13 : Int64) (st : St) : Option (Int32 × St) := K45 v1 v2 v3 v5 v7 v8 v9 v11 (v13 + 1) st
set_option maxHeartbeats 4000000 in
set_option maxRecDepth 100000 in
theorem wX11_isCalm_s105 (C : Cx p s m args meth c cX11_isCalm 17 wsL_law RX11 (some .boolean) D G ad) (n : Nat) (K3 : Int32 → Int32 → Int64 → Int64 → Int32 → Int32 → St → Option (Int32 × St)) (K45 : Int32 → Int32 → Int64 → Int64 → Int32 → Int32 → Int64 → Int64 → Int64 → St → Option (Int32 × St))  (v1 : Int32) (v2 : Int32) (v3 : Int64) (v5 : Int64) (v7 : Int32) (v8 : Int32) (v9 : Int64) (v11 : Int64) (v13 : Int64)   (st : St) (res : (Int32 × St)) (hK3 : ∀ (v1 : Int32) (v2 : Int32) (v3 : Int64) (v5 : Int64) (v7 : Int32) (v8 : Int32) (st : St), K3 v1 v2 v3 v5 v7 v8 st = some res → At p l e (rmK 2) s m args below meth c D G ad (MQI D G ad below args s res) 17 st [(0, .ref (ad 130)), (1, .int v1), (2, .int v2), (3, .long v3), (5, .long v5), (7, .int v7), (8, .int v8)] 3 []) (hK45 : ∀ (v1 : Int32) (v2 : Int32) (v3 : Int64) (v5 : Int64) (v7 : Int32) (v8 : Int32) (v9 : Int64) (v11 : Int64) (v13 : Int64) (st : St), K45 v1 v2 v3 v5 v7 v8 v9 v11 v13 st = some res → At p l e (rmK 2) s m args below meth c D G ad (MQI D G ad below args s res) 17 st [(0, .ref (ad 130)), (1, .int v1), (2, .int v2), (3, .long v3), (5, .long v5), (7, .int v7), (8, .int v8), (9, .long v9), (11, .long v11), (13, .long v13)] 45 []) (hf : fX11_isCalm_s105 n K3 K45  v1 v2 v3 v5 v7 v8 v9 v11 v13 st = some res) : At p l e (rmK 2) s m args below meth c D G ad (MQI D G ad below args s res) 17 st [(0, .ref (ad 130)), (1, .int v1), (2, .int v2), (3, .long v3), (5, .long v5), (7, .int v7), (8, .int v8), (9, .long v9), (11, .long v11), (13, .long v13)] 105 [] := by
  obtain ⟨hx, hb, hml, hown, hts, hr, hlk, hK, had, hSt⟩ := id C
  intro H locs ls hl hP hS
  unfold fX11_isCalm_s105 at hf
  refine lv_lload hx hb dX11_isCalm_105 (lv_at hl 9 rfl) ?_
  refine lv_lconst (v := 1) hx hb dX11_isCalm_107 (by decide) ?_
  refine lv_ladd hx hb dX11_isCalm_108 ?_
  refine lv_lstore (lv' := [(13, .long (v13 + 1)), (0, .ref (ad 130)), (1, .int v1), (2, .int v2), (3, .long v3), (5, .long v5), (7, .int v7), (8, .int v8), (9, .long v9), (11, .long v11)]) hx hb dX11_isCalm_109 hl (by decide) rfl (fun ls hl => ?_)
  refine lv_goto (tgt := 45) hx hb dX11_isCalm_111 (by decide) ?_
  exact hK45 v1 v2 v3 v5 v7 v8 v9 v11 (v13 + 1)  st hf H locs ls (lv_sub hl [1, 2, 3, 4, 5, 6, 7, 8, 9, 0] rfl) hP hS
def fX11_isCalm_s103 (n : Nat)    (st : St) : Option (Int32 × St) := some (0, st)
set_option maxHeartbeats 4000000 in
set_option maxRecDepth 100000 in
theorem wX11_isCalm_s103 (C : Cx p s m args meth c cX11_isCalm 17 wsL_law RX11 (some .boolean) D G ad) (n : Nat)      (st : St) (res : (Int32 × St))  (hf : fX11_isCalm_s103 n    st = some res) : At p l e (rmK 2) s m args below meth c D G ad (MQI D G ad below args s res) 17 st [] 103 [] := by
  obtain ⟨hx, hb, hml, hown, hts, hr, hlk, hK, had, hSt⟩ := id C
  intro H locs ls hl hP hS
  unfold fX11_isCalm_s103 at hf
  refine lv_iconst (v := 0) hx hb dX11_isCalm_103 (by decide) ?_
  exact g_zret hx hb hr hlk hP hS (Or.inl rfl) dX11_isCalm_104 hf
def fX11_isCalm_s97 (n : Nat) (K3 : Int32 → Int32 → Int64 → Int64 → Int32 → Int32 → St → Option (Int32 × St)) (K45 : Int32 → Int32 → Int64 → Int64 → Int32 → Int32 → Int64 → Int64 → Int64 → St → Option (Int32 × St))  (v1 : Int32) (v2 : Int32) (v3 : Int64) (v5 : Int64) (v7 : Int32) (v8 : Int32) (v9 : Int64) (v11 : Int64) (v13 : Int64) (k0 : Int64) (st : St) : Option (Int32 × St) := if v11 ≤ k0 then fX11_isCalm_s105 n K3 K45 v1 v2 v3 v5 v7 v8 v9 v11 v13 st else fX11_isCalm_s103 n st
set_option maxHeartbeats 4000000 in
set_option maxRecDepth 100000 in
theorem wX11_isCalm_s97 (C : Cx p s m args meth c cX11_isCalm 17 wsL_law RX11 (some .boolean) D G ad) (n : Nat) (K3 : Int32 → Int32 → Int64 → Int64 → Int32 → Int32 → St → Option (Int32 × St)) (K45 : Int32 → Int32 → Int64 → Int64 → Int32 → Int32 → Int64 → Int64 → Int64 → St → Option (Int32 × St))  (v1 : Int32) (v2 : Int32) (v3 : Int64) (v5 : Int64) (v7 : Int32) (v8 : Int32) (v9 : Int64) (v11 : Int64) (v13 : Int64) (k0 : Int64)   (st : St) (res : (Int32 × St)) (hK3 : ∀ (v1 : Int32) (v2 : Int32) (v3 : Int64) (v5 : Int64) (v7 : Int32) (v8 : Int32) (st : St), K3 v1 v2 v3 v5 v7 v8 st = some res → At p l e (rmK 2) s m args below meth c D G ad (MQI D G ad below args s res) 17 st [(0, .ref (ad 130)), (1, .int v1), (2, .int v2), (3, .long v3), (5, .long v5), (7, .int v7), (8, .int v8)] 3 []) (hK45 : ∀ (v1 : Int32) (v2 : Int32) (v3 : Int64) (v5 : Int64) (v7 : Int32) (v8 : Int32) (v9 : Int64) (v11 : Int64) (v13 : Int64) (st : St), K45 v1 v2 v3 v5 v7 v8 v9 v11 v13 st = some res → At p l e (rmK 2) s m args below meth c D G ad (MQI D G ad below args s res) 17 st [(0, .ref (ad 130)), (1, .int v1), (2, .int v2), (3, .long v3), (5, .long v5), (7, .int v7), (8, .int v8), (9, .long v9), (11, .long v11), (13, .long v13)] 45 []) (hf : fX11_isCalm_s97 n K3 K45  v1 v2 v3 v5 v7 v8 v9 v11 v13 k0 st = some res) : At p l e (rmK 2) s m args below meth c D G ad (MQI D G ad below args s res) 17 st [(0, .ref (ad 130)), (1, .int v1), (2, .int v2), (3, .long v3), (5, .long v5), (7, .int v7), (8, .int v8), (9, .long v9), (11, .long v11), (13, .long v13)] 97 [.long k0] := by
  obtain ⟨hx, hb, hml, hown, hts, hr, hlk, hK, had, hSt⟩ := id C
  intro H locs ls hl hP hS
  unfold fX11_isCalm_s97 at hf
  refine lv_lload hx hb dX11_isCalm_97 (lv_at hl 8 rfl) ?_
  refine g_lcmp_ge (tgt := 105) hx hb dX11_isCalm_99 dX11_isCalm_100 (by decide) (fun q => ?_) (fun q => ?_)
  · exact wX11_isCalm_s105 C n K3 K45 v1 v2 v3 v5 v7 v8 v9 v11 v13 st res hK3 hK45 (it hf q) H locs ls (lv_sub hl [0, 1, 2, 3, 4, 5, 6, 7, 8, 9] rfl) hP hS
  · exact wX11_isCalm_s103 C n st res (ie hf q) H locs ls (lv_sub hl [] rfl) hP hS
def fX11_isCalm_s91 (n : Nat) (K3 : Int32 → Int32 → Int64 → Int64 → Int32 → Int32 → St → Option (Int32 × St)) (K45 : Int32 → Int32 → Int64 → Int64 → Int32 → Int32 → Int64 → Int64 → Int64 → St → Option (Int32 × St))  (v1 : Int32) (v2 : Int32) (v3 : Int64) (v5 : Int64) (v7 : Int32) (v8 : Int32) (v9 : Int64) (v11 : Int64) (v13 : Int64) (k0 : Int64) (st : St) : Option (Int32 × St) := (fX11_size n (k0 - v9) st).bind (fun q => fX11_isCalm_s97 n K3 K45 v1 v2 v3 v5 v7 v8 v9 v11 v13 q.1 q.2)
set_option maxHeartbeats 4000000 in
set_option maxRecDepth 100000 in
theorem wX11_isCalm_s91 (C : Cx p s m args meth c cX11_isCalm 17 wsL_law RX11 (some .boolean) D G ad) (n : Nat) (K3 : Int32 → Int32 → Int64 → Int64 → Int32 → Int32 → St → Option (Int32 × St)) (K45 : Int32 → Int32 → Int64 → Int64 → Int32 → Int32 → Int64 → Int64 → Int64 → St → Option (Int32 × St))  (v1 : Int32) (v2 : Int32) (v3 : Int64) (v5 : Int64) (v7 : Int32) (v8 : Int32) (v9 : Int64) (v11 : Int64) (v13 : Int64) (k0 : Int64)   (st : St) (res : (Int32 × St)) (hK3 : ∀ (v1 : Int32) (v2 : Int32) (v3 : Int64) (v5 : Int64) (v7 : Int32) (v8 : Int32) (st : St), K3 v1 v2 v3 v5 v7 v8 st = some res → At p l e (rmK 2) s m args below meth c D G ad (MQI D G ad below args s res) 17 st [(0, .ref (ad 130)), (1, .int v1), (2, .int v2), (3, .long v3), (5, .long v5), (7, .int v7), (8, .int v8)] 3 []) (hK45 : ∀ (v1 : Int32) (v2 : Int32) (v3 : Int64) (v5 : Int64) (v7 : Int32) (v8 : Int32) (v9 : Int64) (v11 : Int64) (v13 : Int64) (st : St), K45 v1 v2 v3 v5 v7 v8 v9 v11 v13 st = some res → At p l e (rmK 2) s m args below meth c D G ad (MQI D G ad below args s res) 17 st [(0, .ref (ad 130)), (1, .int v1), (2, .int v2), (3, .long v3), (5, .long v5), (7, .int v7), (8, .int v8), (9, .long v9), (11, .long v11), (13, .long v13)] 45 []) (hf : fX11_isCalm_s91 n K3 K45  v1 v2 v3 v5 v7 v8 v9 v11 v13 k0 st = some res) : At p l e (rmK 2) s m args below meth c D G ad (MQI D G ad below args s res) 17 st [(0, .ref (ad 130)), (1, .int v1), (2, .int v2), (3, .long v3), (5, .long v5), (7, .int v7), (8, .int v8), (9, .long v9), (11, .long v11), (13, .long v13)] 91 [.long k0] := by
  obtain ⟨hx, hb, hml, hown, hts, hr, hlk, hK, had, hSt⟩ := id C
  intro H locs ls hl hP hS
  unfold fX11_isCalm_s91 at hf
  refine lv_lload hx hb dX11_isCalm_91 (lv_at hl 7 rfl) ?_
  refine lv_lsub hx hb dX11_isCalm_93 ?_
  obtain ⟨q, hq, hf⟩ := bd hf
  refine gcS_j (k := 0) (As := [.long (k0 - v9)]) (rest := []) hx hb hml hown hts hK hSt hP hS hl.1 (goodS wm_39_21 wm_39_22 wm_1_5 wm_39_23) okX11_size (Nat.le_of_ble_eq_true rfl) (Nat.le_of_ble_eq_true rfl) rfl rfl (Nat.le_of_ble_eq_true rfl) dX11_isCalm_94 (kX11_size l D G ad had n  (k0 - v9) st q hq) (fun H locs hP hS => ?_)
  exact wX11_isCalm_s97 C n K3 K45 v1 v2 v3 v5 v7 v8 v9 v11 v13 q.1 q.2 res hK3 hK45 hf H locs ls (lv_sub hl [0, 1, 2, 3, 4, 5, 6, 7, 8, 9] rfl) hP hS
def fX11_isCalm_s54 (n : Nat) (K3 : Int32 → Int32 → Int64 → Int64 → Int32 → Int32 → St → Option (Int32 × St)) (K45 : Int32 → Int32 → Int64 → Int64 → Int32 → Int32 → Int64 → Int64 → Int64 → St → Option (Int32 × St))  (v1 : Int32) (v2 : Int32) (v3 : Int64) (v5 : Int64) (v7 : Int32) (v8 : Int32) (v9 : Int64) (v11 : Int64) (v13 : Int64) (st : St) : Option (Int32 × St) := (fX11_getsOne n v1 v2 ((v5 &&& (((15 : Int64) <<< ((4 * v8).toInt64 &&& 63)) ^^^ (-1))) ||| (v13 <<< ((4 * v8).toInt64 &&& 63))) v7 v8 st).bind (fun q => fX11_isCalm_s91 n K3 K45 v1 v2 v3 v5 v7 v8 v9 v11 v13 q.1 q.2)
set_option maxHeartbeats 4000000 in
set_option maxRecDepth 100000 in
theorem wX11_isCalm_s54 (C : Cx p s m args meth c cX11_isCalm 17 wsL_law RX11 (some .boolean) D G ad) (n : Nat) (K3 : Int32 → Int32 → Int64 → Int64 → Int32 → Int32 → St → Option (Int32 × St)) (K45 : Int32 → Int32 → Int64 → Int64 → Int32 → Int32 → Int64 → Int64 → Int64 → St → Option (Int32 × St))  (v1 : Int32) (v2 : Int32) (v3 : Int64) (v5 : Int64) (v7 : Int32) (v8 : Int32) (v9 : Int64) (v11 : Int64) (v13 : Int64)   (st : St) (res : (Int32 × St)) (hK3 : ∀ (v1 : Int32) (v2 : Int32) (v3 : Int64) (v5 : Int64) (v7 : Int32) (v8 : Int32) (st : St), K3 v1 v2 v3 v5 v7 v8 st = some res → At p l e (rmK 2) s m args below meth c D G ad (MQI D G ad below args s res) 17 st [(0, .ref (ad 130)), (1, .int v1), (2, .int v2), (3, .long v3), (5, .long v5), (7, .int v7), (8, .int v8)] 3 []) (hK45 : ∀ (v1 : Int32) (v2 : Int32) (v3 : Int64) (v5 : Int64) (v7 : Int32) (v8 : Int32) (v9 : Int64) (v11 : Int64) (v13 : Int64) (st : St), K45 v1 v2 v3 v5 v7 v8 v9 v11 v13 st = some res → At p l e (rmK 2) s m args below meth c D G ad (MQI D G ad below args s res) 17 st [(0, .ref (ad 130)), (1, .int v1), (2, .int v2), (3, .long v3), (5, .long v5), (7, .int v7), (8, .int v8), (9, .long v9), (11, .long v11), (13, .long v13)] 45 []) (hf : fX11_isCalm_s54 n K3 K45  v1 v2 v3 v5 v7 v8 v9 v11 v13 st = some res) : At p l e (rmK 2) s m args below meth c D G ad (MQI D G ad below args s res) 17 st [(0, .ref (ad 130)), (1, .int v1), (2, .int v2), (3, .long v3), (5, .long v5), (7, .int v7), (8, .int v8), (9, .long v9), (11, .long v11), (13, .long v13)] 54 [] := by
  obtain ⟨hx, hb, hml, hown, hts, hr, hlk, hK, had, hSt⟩ := id C
  intro H locs ls hl hP hS
  unfold fX11_isCalm_s54 at hf
  refine lv_lload hx hb dX11_isCalm_54 (lv_at hl 4 rfl) ?_
  refine lv_ldc2 hx hb hown (hts _ wm_48_6) dX11_isCalm_56 ?_
  refine lv_iconst (v := 4) hx hb dX11_isCalm_59 (by decide) ?_
  refine lv_iload hx hb dX11_isCalm_60 (lv_at hl 6 rfl) ?_
  refine lv_imul hx hb dX11_isCalm_62 ?_
  refine lv_lshl hx hb dX11_isCalm_63 rfl ?_
  refine lv_ldc2 hx hb hown (hts _ wm_12_4) dX11_isCalm_64 ?_
  refine lv_lxor hx hb dX11_isCalm_67 ?_
  refine lv_land hx hb dX11_isCalm_68 ?_
  refine lv_lload hx hb dX11_isCalm_69 (lv_at hl 9 rfl) ?_
  refine lv_iconst (v := 4) hx hb dX11_isCalm_71 (by decide) ?_
  refine lv_iload hx hb dX11_isCalm_72 (lv_at hl 6 rfl) ?_
  refine lv_imul hx hb dX11_isCalm_74 ?_
  refine lv_lshl hx hb dX11_isCalm_75 rfl ?_
  refine lv_lor hx hb dX11_isCalm_76 ?_
  refine lv_lstore (lv' := [(15, .long ((v5 &&& (((15 : Int64) <<< ((4 * v8).toInt64 &&& 63)) ^^^ (-1))) ||| (v13 <<< ((4 * v8).toInt64 &&& 63)))), (0, .ref (ad 130)), (1, .int v1), (2, .int v2), (3, .long v3), (5, .long v5), (7, .int v7), (8, .int v8), (9, .long v9), (11, .long v11), (13, .long v13)]) hx hb dX11_isCalm_77 hl (by decide) rfl (fun ls hl => ?_)
  refine lv_aload_n hx hb dX11_isCalm_79 rfl (lv_at hl 1 rfl) ?_
  refine lv_iload_n hx hb dX11_isCalm_80 rfl (lv_at hl 2 rfl) ?_
  refine lv_iload_n hx hb dX11_isCalm_81 rfl (lv_at hl 3 rfl) ?_
  refine lv_lload hx hb dX11_isCalm_82 (lv_at hl 0 rfl) ?_
  refine lv_iload hx hb dX11_isCalm_84 (lv_at hl 6 rfl) ?_
  refine lv_iload hx hb dX11_isCalm_86 (lv_at hl 7 rfl) ?_
  obtain ⟨q, hq, hf⟩ := bd hf
  refine gcV_j (k := 1) (o := 130) (As := [.int v1, .int v2, .long ((v5 &&& (((15 : Int64) <<< ((4 * v8).toInt64 &&& 63)) ^^^ (-1))) ||| (v13 <<< ((4 * v8).toInt64 &&& 63))), .int v7, .int v8]) (rest := []) hx hb hml hown hts hK hSt hP hS hl.1 (goodV wm_48_7 wm_48_8 wm_48_9 wm_1_5 wm_48_10) okX11_getsOne ct_130 rfl rfl (Nat.le_of_ble_eq_true rfl) (Nat.le_of_ble_eq_true rfl) rfl rfl (Nat.le_of_ble_eq_true rfl) dX11_isCalm_88 (kX11_getsOne l D G ad had n  v1 v2 ((v5 &&& (((15 : Int64) <<< ((4 * v8).toInt64 &&& 63)) ^^^ (-1))) ||| (v13 <<< ((4 * v8).toInt64 &&& 63))) v7 v8 st q hq) (fun H locs hP hS => ?_)
  exact wX11_isCalm_s91 C n K3 K45 v1 v2 v3 v5 v7 v8 v9 v11 v13 q.1 q.2 res hK3 hK45 hf H locs ls (lv_sub hl [1, 2, 3, 4, 5, 6, 7, 8, 9, 10] rfl) hP hS
def fX11_isCalm_s45 (n : Nat) (K3 : Int32 → Int32 → Int64 → Int64 → Int32 → Int32 → St → Option (Int32 × St)) (K45 : Int32 → Int32 → Int64 → Int64 → Int32 → Int32 → Int64 → Int64 → Int64 → St → Option (Int32 × St))  (v1 : Int32) (v2 : Int32) (v3 : Int64) (v5 : Int64) (v7 : Int32) (v8 : Int32) (v9 : Int64) (v11 : Int64) (v13 : Int64) (st : St) : Option (Int32 × St) := if 12 < v13 then fX11_isCalm_s114 n K3 v1 v2 v3 v5 v7 v8 st else fX11_isCalm_s54 n K3 K45 v1 v2 v3 v5 v7 v8 v9 v11 v13 st
set_option maxHeartbeats 4000000 in
set_option maxRecDepth 100000 in
theorem wX11_isCalm_s45 (C : Cx p s m args meth c cX11_isCalm 17 wsL_law RX11 (some .boolean) D G ad) (n : Nat) (K3 : Int32 → Int32 → Int64 → Int64 → Int32 → Int32 → St → Option (Int32 × St)) (K45 : Int32 → Int32 → Int64 → Int64 → Int32 → Int32 → Int64 → Int64 → Int64 → St → Option (Int32 × St))  (v1 : Int32) (v2 : Int32) (v3 : Int64) (v5 : Int64) (v7 : Int32) (v8 : Int32) (v9 : Int64) (v11 : Int64) (v13 : Int64)   (st : St) (res : (Int32 × St)) (hK3 : ∀ (v1 : Int32) (v2 : Int32) (v3 : Int64) (v5 : Int64) (v7 : Int32) (v8 : Int32) (st : St), K3 v1 v2 v3 v5 v7 v8 st = some res → At p l e (rmK 2) s m args below meth c D G ad (MQI D G ad below args s res) 17 st [(0, .ref (ad 130)), (1, .int v1), (2, .int v2), (3, .long v3), (5, .long v5), (7, .int v7), (8, .int v8)] 3 []) (hK45 : ∀ (v1 : Int32) (v2 : Int32) (v3 : Int64) (v5 : Int64) (v7 : Int32) (v8 : Int32) (v9 : Int64) (v11 : Int64) (v13 : Int64) (st : St), K45 v1 v2 v3 v5 v7 v8 v9 v11 v13 st = some res → At p l e (rmK 2) s m args below meth c D G ad (MQI D G ad below args s res) 17 st [(0, .ref (ad 130)), (1, .int v1), (2, .int v2), (3, .long v3), (5, .long v5), (7, .int v7), (8, .int v8), (9, .long v9), (11, .long v11), (13, .long v13)] 45 []) (hf : fX11_isCalm_s45 n K3 K45  v1 v2 v3 v5 v7 v8 v9 v11 v13 st = some res) : At p l e (rmK 2) s m args below meth c D G ad (MQI D G ad below args s res) 17 st [(0, .ref (ad 130)), (1, .int v1), (2, .int v2), (3, .long v3), (5, .long v5), (7, .int v7), (8, .int v8), (9, .long v9), (11, .long v11), (13, .long v13)] 45 [] := by
  obtain ⟨hx, hb, hml, hown, hts, hr, hlk, hK, had, hSt⟩ := id C
  intro H locs ls hl hP hS
  unfold fX11_isCalm_s45 at hf
  refine lv_lload hx hb dX11_isCalm_45 (lv_at hl 9 rfl) ?_
  refine lv_ldc2 hx hb hown (hts _ wm_13_17) dX11_isCalm_47 ?_
  refine g_lcmp_gt (tgt := 114) hx hb dX11_isCalm_50 dX11_isCalm_51 (by decide) (fun q => ?_) (fun q => ?_)
  · exact wX11_isCalm_s114 C n K3 v1 v2 v3 v5 v7 v8 st res hK3 (it hf q) H locs ls (lv_sub hl [0, 1, 2, 3, 4, 5, 6] rfl) hP hS
  · exact wX11_isCalm_s54 C n K3 K45 v1 v2 v3 v5 v7 v8 v9 v11 v13 st res hK3 hK45 (ie hf q) H locs ls (lv_sub hl [0, 1, 2, 3, 4, 5, 6, 7, 8, 9] rfl) hP hS
def fX11_isCalm_L45 (n : Nat) (K3 : Int32 → Int32 → Int64 → Int64 → Int32 → Int32 → St → Option (Int32 × St))  : Nat → Int32 → Int32 → Int64 → Int64 → Int32 → Int32 → Int64 → Int64 → Int64 → St → Option (Int32 × St)
  | 0, _, _, _, _, _, _, _, _, _, _ => none
  | k + 1, v1, v2, v3, v5, v7, v8, v9, v11, v13, st => fX11_isCalm_s45 n K3 (fX11_isCalm_L45 n K3 k)  v1 v2 v3 v5 v7 v8 v9 v11 v13 st
theorem wX11_isCalm_L45 (C : Cx p s m args meth c cX11_isCalm 17 wsL_law RX11 (some .boolean) D G ad) (n : Nat) (K3 : Int32 → Int32 → Int64 → Int64 → Int32 → Int32 → St → Option (Int32 × St))   (res : (Int32 × St)) (hK3 : ∀ (v1 : Int32) (v2 : Int32) (v3 : Int64) (v5 : Int64) (v7 : Int32) (v8 : Int32) (st : St), K3 v1 v2 v3 v5 v7 v8 st = some res → At p l e (rmK 2) s m args below meth c D G ad (MQI D G ad below args s res) 17 st [(0, .ref (ad 130)), (1, .int v1), (2, .int v2), (3, .long v3), (5, .long v5), (7, .int v7), (8, .int v8)] 3 []) : ∀ (k : Nat) (v1 : Int32) (v2 : Int32) (v3 : Int64) (v5 : Int64) (v7 : Int32) (v8 : Int32) (v9 : Int64) (v11 : Int64) (v13 : Int64)  (st : St), fX11_isCalm_L45 n K3 k v1 v2 v3 v5 v7 v8 v9 v11 v13 st = some res → At p l e (rmK 2) s m args below meth c D G ad (MQI D G ad below args s res) 17 st [(0, .ref (ad 130)), (1, .int v1), (2, .int v2), (3, .long v3), (5, .long v5), (7, .int v7), (8, .int v8), (9, .long v9), (11, .long v11), (13, .long v13)] 45 [] := by
  intro k
  induction k with
  | zero => intro v1 v2 v3 v5 v7 v8 v9 v11 v13  st h; exact absurd h (by intro q; cases q)
  | succ k ih => intro v1 v2 v3 v5 v7 v8 v9 v11 v13  st h; exact wX11_isCalm_s45 C n K3 (fX11_isCalm_L45 n K3 k)  v1 v2 v3 v5 v7 v8 v9 v11 v13   st res hK3 ih h
def fX11_isCalm_s40 (n : Nat) (K3 : Int32 → Int32 → Int64 → Int64 → Int32 → Int32 → St → Option (Int32 × St))  (v1 : Int32) (v2 : Int32) (v3 : Int64) (v5 : Int64) (v7 : Int32) (v8 : Int32) (v9 : Int64) (k0 : Int64) (st : St) : Option (Int32 × St) := fX11_isCalm_L45 n K3 n v1 v2 v3 v5 v7 v8 v9 k0 0 st
set_option maxHeartbeats 4000000 in
set_option maxRecDepth 100000 in
theorem wX11_isCalm_s40 (C : Cx p s m args meth c cX11_isCalm 17 wsL_law RX11 (some .boolean) D G ad) (n : Nat) (K3 : Int32 → Int32 → Int64 → Int64 → Int32 → Int32 → St → Option (Int32 × St))  (v1 : Int32) (v2 : Int32) (v3 : Int64) (v5 : Int64) (v7 : Int32) (v8 : Int32) (v9 : Int64) (k0 : Int64)   (st : St) (res : (Int32 × St)) (hK3 : ∀ (v1 : Int32) (v2 : Int32) (v3 : Int64) (v5 : Int64) (v7 : Int32) (v8 : Int32) (st : St), K3 v1 v2 v3 v5 v7 v8 st = some res → At p l e (rmK 2) s m args below meth c D G ad (MQI D G ad below args s res) 17 st [(0, .ref (ad 130)), (1, .int v1), (2, .int v2), (3, .long v3), (5, .long v5), (7, .int v7), (8, .int v8)] 3 []) (hf : fX11_isCalm_s40 n K3  v1 v2 v3 v5 v7 v8 v9 k0 st = some res) : At p l e (rmK 2) s m args below meth c D G ad (MQI D G ad below args s res) 17 st [(0, .ref (ad 130)), (1, .int v1), (2, .int v2), (3, .long v3), (5, .long v5), (7, .int v7), (8, .int v8), (9, .long v9)] 40 [.long k0] := by
  obtain ⟨hx, hb, hml, hown, hts, hr, hlk, hK, had, hSt⟩ := id C
  intro H locs ls hl hP hS
  unfold fX11_isCalm_s40 at hf
  refine lv_lstore (lv' := [(11, .long k0), (0, .ref (ad 130)), (1, .int v1), (2, .int v2), (3, .long v3), (5, .long v5), (7, .int v7), (8, .int v8), (9, .long v9)]) hx hb dX11_isCalm_40 hl (by decide) rfl (fun ls hl => ?_)
  refine lv_lconst (v := 0) hx hb dX11_isCalm_42 (by decide) ?_
  refine lv_lstore (lv' := [(13, .long 0), (11, .long k0), (0, .ref (ad 130)), (1, .int v1), (2, .int v2), (3, .long v3), (5, .long v5), (7, .int v7), (8, .int v8), (9, .long v9)]) hx hb dX11_isCalm_43 hl (by decide) rfl (fun ls hl => ?_)
  exact wX11_isCalm_L45 C n K3 res hK3 n v1 v2 v3 v5 v7 v8 v9 k0 0 st hf H locs ls (lv_sub hl [2, 3, 4, 5, 6, 7, 8, 9, 1, 0] rfl) hP hS
def fX11_isCalm_s34 (n : Nat) (K3 : Int32 → Int32 → Int64 → Int64 → Int32 → Int32 → St → Option (Int32 × St))  (v1 : Int32) (v2 : Int32) (v3 : Int64) (v5 : Int64) (v7 : Int32) (v8 : Int32) (v9 : Int64) (k0 : Int64) (st : St) : Option (Int32 × St) := (fX11_size n (k0 - v9) st).bind (fun q => fX11_isCalm_s40 n K3 v1 v2 v3 v5 v7 v8 v9 q.1 q.2)
set_option maxHeartbeats 4000000 in
set_option maxRecDepth 100000 in
theorem wX11_isCalm_s34 (C : Cx p s m args meth c cX11_isCalm 17 wsL_law RX11 (some .boolean) D G ad) (n : Nat) (K3 : Int32 → Int32 → Int64 → Int64 → Int32 → Int32 → St → Option (Int32 × St))  (v1 : Int32) (v2 : Int32) (v3 : Int64) (v5 : Int64) (v7 : Int32) (v8 : Int32) (v9 : Int64) (k0 : Int64)   (st : St) (res : (Int32 × St)) (hK3 : ∀ (v1 : Int32) (v2 : Int32) (v3 : Int64) (v5 : Int64) (v7 : Int32) (v8 : Int32) (st : St), K3 v1 v2 v3 v5 v7 v8 st = some res → At p l e (rmK 2) s m args below meth c D G ad (MQI D G ad below args s res) 17 st [(0, .ref (ad 130)), (1, .int v1), (2, .int v2), (3, .long v3), (5, .long v5), (7, .int v7), (8, .int v8)] 3 []) (hf : fX11_isCalm_s34 n K3  v1 v2 v3 v5 v7 v8 v9 k0 st = some res) : At p l e (rmK 2) s m args below meth c D G ad (MQI D G ad below args s res) 17 st [(0, .ref (ad 130)), (1, .int v1), (2, .int v2), (3, .long v3), (5, .long v5), (7, .int v7), (8, .int v8), (9, .long v9)] 34 [.long k0] := by
  obtain ⟨hx, hb, hml, hown, hts, hr, hlk, hK, had, hSt⟩ := id C
  intro H locs ls hl hP hS
  unfold fX11_isCalm_s34 at hf
  refine lv_lload hx hb dX11_isCalm_34 (lv_at hl 7 rfl) ?_
  refine lv_lsub hx hb dX11_isCalm_36 ?_
  obtain ⟨q, hq, hf⟩ := bd hf
  refine gcS_j (k := 0) (As := [.long (k0 - v9)]) (rest := []) hx hb hml hown hts hK hSt hP hS hl.1 (goodS wm_39_21 wm_39_22 wm_1_5 wm_39_23) okX11_size (Nat.le_of_ble_eq_true rfl) (Nat.le_of_ble_eq_true rfl) rfl rfl (Nat.le_of_ble_eq_true rfl) dX11_isCalm_37 (kX11_size l D G ad had n  (k0 - v9) st q hq) (fun H locs hP hS => ?_)
  exact wX11_isCalm_s40 C n K3 v1 v2 v3 v5 v7 v8 v9 q.1 q.2 res hK3 hf H locs ls (lv_sub hl [0, 1, 2, 3, 4, 5, 6, 7] rfl) hP hS
def fX11_isCalm_s10 (n : Nat) (K3 : Int32 → Int32 → Int64 → Int64 → Int32 → Int32 → St → Option (Int32 × St))  (v1 : Int32) (v2 : Int32) (v3 : Int64) (v5 : Int64) (v7 : Int32) (v8 : Int32) (st : St) : Option (Int32 × St) := (fX11_getsOne n v1 v2 v5 v7 v8 st).bind (fun q => fX11_isCalm_s34 n K3 v1 v2 v3 v5 v7 v8 ((v3 >>> ((4 * v8).toInt64 &&& 63)) &&& 15) q.1 q.2)
set_option maxHeartbeats 4000000 in
set_option maxRecDepth 100000 in
theorem wX11_isCalm_s10 (C : Cx p s m args meth c cX11_isCalm 17 wsL_law RX11 (some .boolean) D G ad) (n : Nat) (K3 : Int32 → Int32 → Int64 → Int64 → Int32 → Int32 → St → Option (Int32 × St))  (v1 : Int32) (v2 : Int32) (v3 : Int64) (v5 : Int64) (v7 : Int32) (v8 : Int32)   (st : St) (res : (Int32 × St)) (hK3 : ∀ (v1 : Int32) (v2 : Int32) (v3 : Int64) (v5 : Int64) (v7 : Int32) (v8 : Int32) (st : St), K3 v1 v2 v3 v5 v7 v8 st = some res → At p l e (rmK 2) s m args below meth c D G ad (MQI D G ad below args s res) 17 st [(0, .ref (ad 130)), (1, .int v1), (2, .int v2), (3, .long v3), (5, .long v5), (7, .int v7), (8, .int v8)] 3 []) (hf : fX11_isCalm_s10 n K3  v1 v2 v3 v5 v7 v8 st = some res) : At p l e (rmK 2) s m args below meth c D G ad (MQI D G ad below args s res) 17 st [(0, .ref (ad 130)), (1, .int v1), (2, .int v2), (3, .long v3), (5, .long v5), (7, .int v7), (8, .int v8)] 10 [] := by
  obtain ⟨hx, hb, hml, hown, hts, hr, hlk, hK, had, hSt⟩ := id C
  intro H locs ls hl hP hS
  unfold fX11_isCalm_s10 at hf
  refine lv_lload_n hx hb dX11_isCalm_10 rfl (lv_at hl 3 rfl) ?_
  refine lv_iconst (v := 4) hx hb dX11_isCalm_11 (by decide) ?_
  refine lv_iload hx hb dX11_isCalm_12 (lv_at hl 6 rfl) ?_
  refine lv_imul hx hb dX11_isCalm_14 ?_
  refine lv_lshr hx hb dX11_isCalm_15 rfl ?_
  refine lv_ldc2 hx hb hown (hts _ wm_48_6) dX11_isCalm_16 ?_
  refine lv_land hx hb dX11_isCalm_19 ?_
  refine lv_lstore (lv' := [(9, .long ((v3 >>> ((4 * v8).toInt64 &&& 63)) &&& 15)), (0, .ref (ad 130)), (1, .int v1), (2, .int v2), (3, .long v3), (5, .long v5), (7, .int v7), (8, .int v8)]) hx hb dX11_isCalm_20 hl (by decide) rfl (fun ls hl => ?_)
  refine lv_aload_n hx hb dX11_isCalm_22 rfl (lv_at hl 1 rfl) ?_
  refine lv_iload_n hx hb dX11_isCalm_23 rfl (lv_at hl 2 rfl) ?_
  refine lv_iload_n hx hb dX11_isCalm_24 rfl (lv_at hl 3 rfl) ?_
  refine lv_lload hx hb dX11_isCalm_25 (lv_at hl 5 rfl) ?_
  refine lv_iload hx hb dX11_isCalm_27 (lv_at hl 6 rfl) ?_
  refine lv_iload hx hb dX11_isCalm_29 (lv_at hl 7 rfl) ?_
  obtain ⟨q, hq, hf⟩ := bd hf
  refine gcV_j (k := 1) (o := 130) (As := [.int v1, .int v2, .long v5, .int v7, .int v8]) (rest := []) hx hb hml hown hts hK hSt hP hS hl.1 (goodV wm_48_7 wm_48_8 wm_48_9 wm_1_5 wm_48_10) okX11_getsOne ct_130 rfl rfl (Nat.le_of_ble_eq_true rfl) (Nat.le_of_ble_eq_true rfl) rfl rfl (Nat.le_of_ble_eq_true rfl) dX11_isCalm_31 (kX11_getsOne l D G ad had n  v1 v2 v5 v7 v8 st q hq) (fun H locs hP hS => ?_)
  exact wX11_isCalm_s34 C n K3 v1 v2 v3 v5 v7 v8 ((v3 >>> ((4 * v8).toInt64 &&& 63)) &&& 15) q.1 q.2 res hK3 hf H locs ls (lv_sub hl [1, 2, 3, 4, 5, 6, 7, 0] rfl) hP hS
def fX11_isCalm_s3 (n : Nat) (K3 : Int32 → Int32 → Int64 → Int64 → Int32 → Int32 → St → Option (Int32 × St))  (v1 : Int32) (v2 : Int32) (v3 : Int64) (v5 : Int64) (v7 : Int32) (v8 : Int32) (st : St) : Option (Int32 × St) := if v7 ≤ v8 then fX11_isCalm_s120 n st else fX11_isCalm_s10 n K3 v1 v2 v3 v5 v7 v8 st
set_option maxHeartbeats 4000000 in
set_option maxRecDepth 100000 in
theorem wX11_isCalm_s3 (C : Cx p s m args meth c cX11_isCalm 17 wsL_law RX11 (some .boolean) D G ad) (n : Nat) (K3 : Int32 → Int32 → Int64 → Int64 → Int32 → Int32 → St → Option (Int32 × St))  (v1 : Int32) (v2 : Int32) (v3 : Int64) (v5 : Int64) (v7 : Int32) (v8 : Int32)   (st : St) (res : (Int32 × St)) (hK3 : ∀ (v1 : Int32) (v2 : Int32) (v3 : Int64) (v5 : Int64) (v7 : Int32) (v8 : Int32) (st : St), K3 v1 v2 v3 v5 v7 v8 st = some res → At p l e (rmK 2) s m args below meth c D G ad (MQI D G ad below args s res) 17 st [(0, .ref (ad 130)), (1, .int v1), (2, .int v2), (3, .long v3), (5, .long v5), (7, .int v7), (8, .int v8)] 3 []) (hf : fX11_isCalm_s3 n K3  v1 v2 v3 v5 v7 v8 st = some res) : At p l e (rmK 2) s m args below meth c D G ad (MQI D G ad below args s res) 17 st [(0, .ref (ad 130)), (1, .int v1), (2, .int v2), (3, .long v3), (5, .long v5), (7, .int v7), (8, .int v8)] 3 [] := by
  obtain ⟨hx, hb, hml, hown, hts, hr, hlk, hK, had, hSt⟩ := id C
  intro H locs ls hl hP hS
  unfold fX11_isCalm_s3 at hf
  refine lv_iload hx hb dX11_isCalm_3 (lv_at hl 6 rfl) ?_
  refine lv_iload hx hb dX11_isCalm_5 (lv_at hl 5 rfl) ?_
  refine lv_icmp_ge (tgt := 120) hx hb dX11_isCalm_7 (by decide) (fun q => ?_) (fun q => ?_)
  · exact wX11_isCalm_s120 C n st res (it hf q) H locs ls (lv_sub hl [] rfl) hP hS
  · exact wX11_isCalm_s10 C n K3 v1 v2 v3 v5 v7 v8 st res hK3 (ie hf q) H locs ls (lv_sub hl [0, 1, 2, 3, 4, 5, 6] rfl) hP hS
def fX11_isCalm_L3 (n : Nat)   : Nat → Int32 → Int32 → Int64 → Int64 → Int32 → Int32 → St → Option (Int32 × St)
  | 0, _, _, _, _, _, _, _ => none
  | k + 1, v1, v2, v3, v5, v7, v8, st => fX11_isCalm_s3 n (fX11_isCalm_L3 n k)  v1 v2 v3 v5 v7 v8 st
theorem wX11_isCalm_L3 (C : Cx p s m args meth c cX11_isCalm 17 wsL_law RX11 (some .boolean) D G ad) (n : Nat)    (res : (Int32 × St))  : ∀ (k : Nat) (v1 : Int32) (v2 : Int32) (v3 : Int64) (v5 : Int64) (v7 : Int32) (v8 : Int32)  (st : St), fX11_isCalm_L3 n k v1 v2 v3 v5 v7 v8 st = some res → At p l e (rmK 2) s m args below meth c D G ad (MQI D G ad below args s res) 17 st [(0, .ref (ad 130)), (1, .int v1), (2, .int v2), (3, .long v3), (5, .long v5), (7, .int v7), (8, .int v8)] 3 [] := by
  intro k
  induction k with
  | zero => intro v1 v2 v3 v5 v7 v8  st h; exact absurd h (by intro q; cases q)
  | succ k ih => intro v1 v2 v3 v5 v7 v8  st h; exact wX11_isCalm_s3 C n (fX11_isCalm_L3 n k)  v1 v2 v3 v5 v7 v8   st res ih h
def fX11_isCalm_s0 (n : Nat)   (v1 : Int32) (v2 : Int32) (v3 : Int64) (v5 : Int64) (v7 : Int32) (st : St) : Option (Int32 × St) := fX11_isCalm_L3 n n v1 v2 v3 v5 v7 0 st
set_option maxHeartbeats 4000000 in
set_option maxRecDepth 100000 in
theorem wX11_isCalm_s0 (C : Cx p s m args meth c cX11_isCalm 17 wsL_law RX11 (some .boolean) D G ad) (n : Nat)   (v1 : Int32) (v2 : Int32) (v3 : Int64) (v5 : Int64) (v7 : Int32)   (st : St) (res : (Int32 × St))  (hf : fX11_isCalm_s0 n   v1 v2 v3 v5 v7 st = some res) : At p l e (rmK 2) s m args below meth c D G ad (MQI D G ad below args s res) 17 st [(0, .ref (ad 130)), (1, .int v1), (2, .int v2), (3, .long v3), (5, .long v5), (7, .int v7)] 0 [] := by
  obtain ⟨hx, hb, hml, hown, hts, hr, hlk, hK, had, hSt⟩ := id C
  intro H locs ls hl hP hS
  unfold fX11_isCalm_s0 at hf
  refine lv_iconst (v := 0) hx hb dX11_isCalm_0 (by decide) ?_
  refine lv_istore (lv' := [(8, .int 0), (0, .ref (ad 130)), (1, .int v1), (2, .int v2), (3, .long v3), (5, .long v5), (7, .int v7)]) hx hb dX11_isCalm_1 hl (by decide) rfl (fun ls hl => ?_)
  exact wX11_isCalm_L3 C n res n v1 v2 v3 v5 v7 0 st hf H locs ls (lv_sub hl [1, 2, 3, 4, 5, 6, 0] rfl) hP hS
def fX11_isCalm (n : Nat)  (a1 : Int32) (a2 : Int32) (a3 : Int64) (a5 : Int64) (a7 : Int32) (st : St) : Option (Int32 × St) := fX11_isCalm_s0 n a1 a2 a3 a5 a7 st
theorem okX11_isCalm : okY yX11_isCalm RX11 5 := by unfold okY; decide +kernel
end
set_option maxRecDepth 100000 in
theorem kX11_isCalm (l : Launch) (D : va_G) (G : G3) (ad : Nat → Nat) (had : Adr ad) (n : Nat)   (a1 : Int32) (a2 : Int32) (a3 : Int64) (a5 : Int64) (a7 : Int32) (st : St) (res : (Int32 × St)) (hf : fX11_isCalm n  a1 a2 a3 a5 a7 st = some res) {sz : Nat} : CtI l yX11_isCalm (wsU yX11_isCalm cX11_isCalm 17 (some .boolean)) (rmK 2) D G ad sz [.ref (ad 130), .int a1, .int a2, .long a3, .long a5, .int a7] st res := by
  refine Met.ofW (cc := cX11_isCalm) (maxL := 17) (ret := (some .boolean)) (by decide) rfl ?_
  intro p e s m args below meth c s₁ B hml hv
  obtain ⟨rfl, hsz, hP, hK, hSt⟩ := hv
  have hts := atoms_spec (ws := wsU yX11_isCalm cX11_isCalm 17 (some .boolean)) B.pre
  have C : Cx p s m _ meth c cX11_isCalm 17 wsL_law RX11 (some .boolean) D G ad := ⟨B.exec, B.bytes, hml, findClass_of_methodNamed B.named, fun w h => hts w (List.mem_cons_of_mem _ h), B.returns, B.notSynchronized, hK, had, hSt⟩
  subst hsz
  have hl := lv_entry ([.ref (ad 130), .int a1, .int a2, .long a3, .long a5, .int a7]) (n := 17) (Nat.le_of_ble_eq_true rfl)
  rw [lg_entry_eq]
  generalize (lg_sl ([.ref (ad 130), .int a1, .int a2, .long a3, .long a5, .int a7]) ++ List.replicate (17 - (lg_sl ([.ref (ad 130), .int a1, .int a2, .long a3, .long a5, .int a7])).length) Slot.unset).toArray = ls at hl ⊢
  exact wX11_isCalm_s0 C n  a1 a2 a3 a5 a7   st res hf s.heap [] ls (lv_sub hl [0, 1, 2, 3, 4, 5] rfl) hP va_S.rf
section
variable {p : Program} {l : Launch} {e : Env} {s : State} {m : MethodId} {args : Array Value} {below : List Frame} {meth : Method} {c : Code} {D : va_G} {G : G3} {ad : Nat → Nat}
def fX11_calm_s25 (n : Nat)    (st : St) : Option (Int32 × St) := some ((-2), st)
set_option maxHeartbeats 4000000 in
set_option maxRecDepth 100000 in
theorem wX11_calm_s25 (C : Cx p s m args meth c cX11_calm 8 wsL_law RX11 (some .int) D G ad) (n : Nat)      (st : St) (res : (Int32 × St))  (hf : fX11_calm_s25 n    st = some res) : At p l e (rmK 3) s m args below meth c D G ad (MQI D G ad below args s res) 8 st [] 25 [] := by
  obtain ⟨hx, hb, hml, hown, hts, hr, hlk, hK, had, hSt⟩ := id C
  intro H locs ls hl hP hS
  unfold fX11_calm_s25 at hf
  refine lv_bipush (v := (-2)) hx hb dX11_calm_25 (by decide) ?_
  exact g_iret hx hb hr hlk hP hS dX11_calm_27 hf
def fX11_calm_s47 (n : Nat)   (k0 : Int32) (st : St) : Option (Int32 × St) := some (k0, st)
set_option maxHeartbeats 4000000 in
set_option maxRecDepth 100000 in
theorem wX11_calm_s47 (C : Cx p s m args meth c cX11_calm 8 wsL_law RX11 (some .int) D G ad) (n : Nat)   (k0 : Int32)   (st : St) (res : (Int32 × St))  (hf : fX11_calm_s47 n   k0 st = some res) : At p l e (rmK 3) s m args below meth c D G ad (MQI D G ad below args s res) 8 st [] 47 [.int k0] := by
  obtain ⟨hx, hb, hml, hown, hts, hr, hlk, hK, had, hSt⟩ := id C
  intro H locs ls hl hP hS
  unfold fX11_calm_s47 at hf
  exact g_iret hx hb hr hlk hP hS dX11_calm_47 hf
def fX11_calm_s46 (n : Nat)    (st : St) : Option (Int32 × St) := fX11_calm_s47 n 0 st
set_option maxHeartbeats 4000000 in
set_option maxRecDepth 100000 in
theorem wX11_calm_s46 (C : Cx p s m args meth c cX11_calm 8 wsL_law RX11 (some .int) D G ad) (n : Nat)      (st : St) (res : (Int32 × St))  (hf : fX11_calm_s46 n    st = some res) : At p l e (rmK 3) s m args below meth c D G ad (MQI D G ad below args s res) 8 st [] 46 [] := by
  obtain ⟨hx, hb, hml, hown, hts, hr, hlk, hK, had, hSt⟩ := id C
  intro H locs ls hl hP hS
  unfold fX11_calm_s46 at hf
  refine lv_iconst (v := 0) hx hb dX11_calm_46 (by decide) ?_
  exact wX11_calm_s47 C n 0 st res hf H locs ls (lv_sub hl [] rfl) hP hS
def fX11_calm_s42 (n : Nat)    (st : St) : Option (Int32 × St) := fX11_calm_s47 n 1 st
set_option maxHeartbeats 4000000 in
set_option maxRecDepth 100000 in
theorem wX11_calm_s42 (C : Cx p s m args meth c cX11_calm 8 wsL_law RX11 (some .int) D G ad) (n : Nat)      (st : St) (res : (Int32 × St))  (hf : fX11_calm_s42 n    st = some res) : At p l e (rmK 3) s m args below meth c D G ad (MQI D G ad below args s res) 8 st [] 42 [] := by
  obtain ⟨hx, hb, hml, hown, hts, hr, hlk, hK, had, hSt⟩ := id C
  intro H locs ls hl hP hS
  unfold fX11_calm_s42 at hf
  refine lv_iconst (v := 1) hx hb dX11_calm_42 (by decide) ?_
  refine lv_goto (tgt := 47) hx hb dX11_calm_43 (by decide) ?_
  exact wX11_calm_s47 C n 1 st res hf H locs ls (lv_sub hl [] rfl) hP hS
def fX11_calm_s39 (n : Nat)   (k0 : Int32) (st : St) : Option (Int32 × St) := if k0 = 0 then fX11_calm_s46 n st else fX11_calm_s42 n st
set_option maxHeartbeats 4000000 in
set_option maxRecDepth 100000 in
theorem wX11_calm_s39 (C : Cx p s m args meth c cX11_calm 8 wsL_law RX11 (some .int) D G ad) (n : Nat)   (k0 : Int32)   (st : St) (res : (Int32 × St))  (hf : fX11_calm_s39 n   k0 st = some res) : At p l e (rmK 3) s m args below meth c D G ad (MQI D G ad below args s res) 8 st [] 39 [.int k0] := by
  obtain ⟨hx, hb, hml, hown, hts, hr, hlk, hK, had, hSt⟩ := id C
  intro H locs ls hl hP hS
  unfold fX11_calm_s39 at hf
  refine lv_if_eq (tgt := 46) hx hb dX11_calm_39 (by decide) (fun q => ?_) (fun q => ?_)
  · exact wX11_calm_s46 C n st res (it hf q) H locs ls (lv_sub hl [] rfl) hP hS
  · exact wX11_calm_s42 C n st res (ie hf q) H locs ls (lv_sub hl [] rfl) hP hS
def fX11_calm_s28 (n : Nat)   (v1 : Int32) (v2 : Int32) (v3 : Int64) (v5 : Int64) (v7 : Int32) (st : St) : Option (Int32 × St) := (fX11_isCalm n v1 v2 v3 v5 v7 st).bind (fun q => fX11_calm_s39 n q.1 q.2)
set_option maxHeartbeats 4000000 in
set_option maxRecDepth 100000 in
theorem wX11_calm_s28 (C : Cx p s m args meth c cX11_calm 8 wsL_law RX11 (some .int) D G ad) (n : Nat)   (v1 : Int32) (v2 : Int32) (v3 : Int64) (v5 : Int64) (v7 : Int32)   (st : St) (res : (Int32 × St))  (hf : fX11_calm_s28 n   v1 v2 v3 v5 v7 st = some res) : At p l e (rmK 3) s m args below meth c D G ad (MQI D G ad below args s res) 8 st [(0, .ref (ad 130)), (1, .int v1), (2, .int v2), (3, .long v3), (5, .long v5), (7, .int v7)] 28 [] := by
  obtain ⟨hx, hb, hml, hown, hts, hr, hlk, hK, had, hSt⟩ := id C
  intro H locs ls hl hP hS
  unfold fX11_calm_s28 at hf
  refine lv_aload_n hx hb dX11_calm_28 rfl (lv_at hl 0 rfl) ?_
  refine lv_iload_n hx hb dX11_calm_29 rfl (lv_at hl 1 rfl) ?_
  refine lv_iload_n hx hb dX11_calm_30 rfl (lv_at hl 2 rfl) ?_
  refine lv_lload_n hx hb dX11_calm_31 rfl (lv_at hl 3 rfl) ?_
  refine lv_lload hx hb dX11_calm_32 (lv_at hl 4 rfl) ?_
  refine lv_iload hx hb dX11_calm_34 (lv_at hl 5 rfl) ?_
  obtain ⟨q, hq, hf⟩ := bd hf
  refine gcV_i (k := 2) (o := 130) (As := [.int v1, .int v2, .long v3, .long v5, .int v7]) (rest := []) hx hb hml hown hts hK hSt hP hS hl.1 (goodV wm_49_12 wm_49_13 wm_49_14 wm_1_5 wm_49_15) okX11_isCalm ct_130 rfl rfl (Nat.le_of_ble_eq_true rfl) (Nat.le_of_ble_eq_true rfl) rfl rfl (Nat.le_of_ble_eq_true rfl) dX11_calm_36 (kX11_isCalm l D G ad had n  v1 v2 v3 v5 v7 st q hq) (fun H locs hP hS => ?_)
  exact wX11_calm_s39 C n q.1 q.2 res hf H locs ls (lv_sub hl [] rfl) hP hS
def fX11_calm_s22 (n : Nat)   (v1 : Int32) (v2 : Int32) (v3 : Int64) (v5 : Int64) (v7 : Int32) (k0 : Int32) (st : St) : Option (Int32 × St) := if k0 = 0 then fX11_calm_s25 n st else fX11_calm_s28 n v1 v2 v3 v5 v7 st
set_option maxHeartbeats 4000000 in
set_option maxRecDepth 100000 in
theorem wX11_calm_s22 (C : Cx p s m args meth c cX11_calm 8 wsL_law RX11 (some .int) D G ad) (n : Nat)   (v1 : Int32) (v2 : Int32) (v3 : Int64) (v5 : Int64) (v7 : Int32) (k0 : Int32)   (st : St) (res : (Int32 × St))  (hf : fX11_calm_s22 n   v1 v2 v3 v5 v7 k0 st = some res) : At p l e (rmK 3) s m args below meth c D G ad (MQI D G ad below args s res) 8 st [(0, .ref (ad 130)), (1, .int v1), (2, .int v2), (3, .long v3), (5, .long v5), (7, .int v7)] 22 [.int k0] := by
  obtain ⟨hx, hb, hml, hown, hts, hr, hlk, hK, had, hSt⟩ := id C
  intro H locs ls hl hP hS
  unfold fX11_calm_s22 at hf
  refine lv_if_ne (tgt := 28) hx hb dX11_calm_22 (by decide) (fun q => ?_) (fun q => ?_)
  · exact wX11_calm_s28 C n v1 v2 v3 v5 v7 st res (ie hf q) H locs ls (lv_sub hl [0, 1, 2, 3, 4, 5] rfl) hP hS
  · exact wX11_calm_s25 C n st res (it hf q) H locs ls (lv_sub hl [] rfl) hP hS
def fX11_calm_s14 (n : Nat)   (v1 : Int32) (v2 : Int32) (v3 : Int64) (v5 : Int64) (v7 : Int32) (st : St) : Option (Int32 × St) := (fX11_areDigits n v3 v7 9 st).bind (fun q => fX11_calm_s22 n v1 v2 v3 v5 v7 q.1 q.2)
set_option maxHeartbeats 4000000 in
set_option maxRecDepth 100000 in
theorem wX11_calm_s14 (C : Cx p s m args meth c cX11_calm 8 wsL_law RX11 (some .int) D G ad) (n : Nat)   (v1 : Int32) (v2 : Int32) (v3 : Int64) (v5 : Int64) (v7 : Int32)   (st : St) (res : (Int32 × St))  (hf : fX11_calm_s14 n   v1 v2 v3 v5 v7 st = some res) : At p l e (rmK 3) s m args below meth c D G ad (MQI D G ad below args s res) 8 st [(0, .ref (ad 130)), (1, .int v1), (2, .int v2), (3, .long v3), (5, .long v5), (7, .int v7)] 14 [] := by
  obtain ⟨hx, hb, hml, hown, hts, hr, hlk, hK, had, hSt⟩ := id C
  intro H locs ls hl hP hS
  unfold fX11_calm_s14 at hf
  refine lv_lload_n hx hb dX11_calm_14 rfl (lv_at hl 3 rfl) ?_
  refine lv_iload hx hb dX11_calm_15 (lv_at hl 5 rfl) ?_
  refine lv_bipush (v := 9) hx hb dX11_calm_17 (by decide) ?_
  obtain ⟨q, hq, hf⟩ := bd hf
  refine gcS_i (k := 0) (As := [.long v3, .int v7, .int 9]) (rest := []) hx hb hml hown hts hK hSt hP hS hl.1 (goodS wm_48_3 wm_48_4 wm_1_5 wm_48_5) okX11_areDigits (Nat.le_of_ble_eq_true rfl) (Nat.le_of_ble_eq_true rfl) rfl rfl (Nat.le_of_ble_eq_true rfl) dX11_calm_19 (kX11_areDigits l D G ad had n  v3 v7 9 st q hq) (fun H locs hP hS => ?_)
  exact wX11_calm_s22 C n v1 v2 v3 v5 v7 q.1 q.2 res hf H locs ls (lv_sub hl [0, 1, 2, 3, 4, 5] rfl) hP hS
def fX11_calm_s11 (n : Nat)   (v1 : Int32) (v2 : Int32) (v3 : Int64) (v5 : Int64) (v7 : Int32) (k0 : Int32) (st : St) : Option (Int32 × St) := if k0 = 0 then fX11_calm_s25 n st else fX11_calm_s14 n v1 v2 v3 v5 v7 st
set_option maxHeartbeats 4000000 in
set_option maxRecDepth 100000 in
theorem wX11_calm_s11 (C : Cx p s m args meth c cX11_calm 8 wsL_law RX11 (some .int) D G ad) (n : Nat)   (v1 : Int32) (v2 : Int32) (v3 : Int64) (v5 : Int64) (v7 : Int32) (k0 : Int32)   (st : St) (res : (Int32 × St))  (hf : fX11_calm_s11 n   v1 v2 v3 v5 v7 k0 st = some res) : At p l e (rmK 3) s m args below meth c D G ad (MQI D G ad below args s res) 8 st [(0, .ref (ad 130)), (1, .int v1), (2, .int v2), (3, .long v3), (5, .long v5), (7, .int v7)] 11 [.int k0] := by
  obtain ⟨hx, hb, hml, hown, hts, hr, hlk, hK, had, hSt⟩ := id C
  intro H locs ls hl hP hS
  unfold fX11_calm_s11 at hf
  refine lv_if_eq (tgt := 25) hx hb dX11_calm_11 (by decide) (fun q => ?_) (fun q => ?_)
  · exact wX11_calm_s25 C n st res (it hf q) H locs ls (lv_sub hl [] rfl) hP hS
  · exact wX11_calm_s14 C n v1 v2 v3 v5 v7 st res (ie hf q) H locs ls (lv_sub hl [0, 1, 2, 3, 4, 5] rfl) hP hS
def fX11_calm_s0 (n : Nat)   (v1 : Int32) (v2 : Int32) (v3 : Int64) (v5 : Int64) (v7 : Int32) (st : St) : Option (Int32 × St) := (fX11_areClaims n v1 v2 v5 v7 12 st).bind (fun q => fX11_calm_s11 n v1 v2 v3 v5 v7 q.1 q.2)
set_option maxHeartbeats 4000000 in
set_option maxRecDepth 100000 in
theorem wX11_calm_s0 (C : Cx p s m args meth c cX11_calm 8 wsL_law RX11 (some .int) D G ad) (n : Nat)   (v1 : Int32) (v2 : Int32) (v3 : Int64) (v5 : Int64) (v7 : Int32)   (st : St) (res : (Int32 × St))  (hf : fX11_calm_s0 n   v1 v2 v3 v5 v7 st = some res) : At p l e (rmK 3) s m args below meth c D G ad (MQI D G ad below args s res) 8 st [(0, .ref (ad 130)), (1, .int v1), (2, .int v2), (3, .long v3), (5, .long v5), (7, .int v7)] 0 [] := by
  obtain ⟨hx, hb, hml, hown, hts, hr, hlk, hK, had, hSt⟩ := id C
  intro H locs ls hl hP hS
  unfold fX11_calm_s0 at hf
  refine lv_iload_n hx hb dX11_calm_0 rfl (lv_at hl 1 rfl) ?_
  refine lv_iload_n hx hb dX11_calm_1 rfl (lv_at hl 2 rfl) ?_
  refine lv_lload hx hb dX11_calm_2 (lv_at hl 4 rfl) ?_
  refine lv_iload hx hb dX11_calm_4 (lv_at hl 5 rfl) ?_
  refine lv_bipush (v := 12) hx hb dX11_calm_6 (by decide) ?_
  obtain ⟨q, hq, hf⟩ := bd hf
  refine gcS_i (k := 1) (As := [.int v1, .int v2, .long v5, .int v7, .int 12]) (rest := []) hx hb hml hown hts hK hSt hP hS hl.1 (goodS wm_48_0 wm_48_1 wm_1_5 wm_48_2) okX11_areClaims (Nat.le_of_ble_eq_true rfl) (Nat.le_of_ble_eq_true rfl) rfl rfl (Nat.le_of_ble_eq_true rfl) dX11_calm_8 (kX11_areClaims l D G ad had n  v1 v2 v5 v7 12 st q hq) (fun H locs hP hS => ?_)
  exact wX11_calm_s11 C n v1 v2 v3 v5 v7 q.1 q.2 res hf H locs ls (lv_sub hl [0, 1, 2, 3, 4, 5] rfl) hP hS
def fX11_calm (n : Nat)  (a1 : Int32) (a2 : Int32) (a3 : Int64) (a5 : Int64) (a7 : Int32) (st : St) : Option (Int32 × St) := fX11_calm_s0 n a1 a2 a3 a5 a7 st
theorem okX11_calm : okY yX11_calm RX11 5 := by unfold okY; decide +kernel
end
set_option maxRecDepth 100000 in
theorem kX11_calm (l : Launch) (D : va_G) (G : G3) (ad : Nat → Nat) (had : Adr ad) (n : Nat)   (a1 : Int32) (a2 : Int32) (a3 : Int64) (a5 : Int64) (a7 : Int32) (st : St) (res : (Int32 × St)) (hf : fX11_calm n  a1 a2 a3 a5 a7 st = some res) {sz : Nat} : CtI l yX11_calm (wsU yX11_calm cX11_calm 8 (some .int)) (rmK 3) D G ad sz [.ref (ad 130), .int a1, .int a2, .long a3, .long a5, .int a7] st res := by
  refine Met.ofW (cc := cX11_calm) (maxL := 8) (ret := (some .int)) (by decide) rfl ?_
  intro p e s m args below meth c s₁ B hml hv
  obtain ⟨rfl, hsz, hP, hK, hSt⟩ := hv
  have hts := atoms_spec (ws := wsU yX11_calm cX11_calm 8 (some .int)) B.pre
  have C : Cx p s m _ meth c cX11_calm 8 wsL_law RX11 (some .int) D G ad := ⟨B.exec, B.bytes, hml, findClass_of_methodNamed B.named, fun w h => hts w (List.mem_cons_of_mem _ h), B.returns, B.notSynchronized, hK, had, hSt⟩
  subst hsz
  have hl := lv_entry ([.ref (ad 130), .int a1, .int a2, .long a3, .long a5, .int a7]) (n := 8) (Nat.le_of_ble_eq_true rfl)
  rw [lg_entry_eq]
  generalize (lg_sl ([.ref (ad 130), .int a1, .int a2, .long a3, .long a5, .int a7]) ++ List.replicate (8 - (lg_sl ([.ref (ad 130), .int a1, .int a2, .long a3, .long a5, .int a7])).length) Slot.unset).toArray = ls at hl ⊢
  exact wX11_calm_s0 C n  a1 a2 a3 a5 a7   st res hf s.heap [] ls (lv_sub hl [0, 1, 2, 3, 4, 5] rfl) hP va_S.rf
section
variable {p : Program} {l : Launch} {e : Env} {s : State} {m : MethodId} {args : Array Value} {below : List Frame} {meth : Method} {c : Code} {D : va_G} {G : G3} {ad : Nat → Nat}
def fX11_calmest_s19 (n : Nat)    (st : St) : Option (Int64 × St) := some ((-2), st)
set_option maxHeartbeats 4000000 in
set_option maxRecDepth 100000 in
theorem wX11_calmest_s19 (C : Cx p s m args meth c cX11_calmest 12 wsL_law RX11 (some .long) D G ad) (n : Nat)      (st : St) (res : (Int64 × St))  (hf : fX11_calmest_s19 n    st = some res) : At p l e (rmK 3) s m args below meth c D G ad (MQJ D G ad below args s res) 12 st [] 19 [] := by
  obtain ⟨hx, hb, hml, hown, hts, hr, hlk, hK, had, hSt⟩ := id C
  intro H locs ls hl hP hS
  unfold fX11_calmest_s19 at hf
  refine lv_ldc2 hx hb hown (hts _ wm_46_2) dX11_calmest_19 ?_
  exact g_lret hx hb hr hlk hP hS dX11_calmest_22 hf
def fX11_calmest_s120 (n : Nat)    (st : St) : Option (Int64 × St) := some ((-1), st)
set_option maxHeartbeats 4000000 in
set_option maxRecDepth 100000 in
theorem wX11_calmest_s120 (C : Cx p s m args meth c cX11_calmest 12 wsL_law RX11 (some .long) D G ad) (n : Nat)      (st : St) (res : (Int64 × St))  (hf : fX11_calmest_s120 n    st = some res) : At p l e (rmK 3) s m args below meth c D G ad (MQJ D G ad below args s res) 12 st [] 120 [] := by
  obtain ⟨hx, hb, hml, hown, hts, hr, hlk, hK, had, hSt⟩ := id C
  intro H locs ls hl hP hS
  unfold fX11_calmest_s120 at hf
  refine lv_ldc2 hx hb hown (hts _ wm_12_4) dX11_calmest_120 ?_
  exact g_lret hx hb hr hlk hP hS dX11_calmest_123 hf
def fX11_calmest_s114 (n : Nat) (K43 : Int32 → Int32 → Int64 → Int32 → Int32 → Int32 → St → Option (Int64 × St))  (v1 : Int32) (v2 : Int32) (v3 : Int64) (v5 : Int32) (v6 : Int32) (v7 : Int32) (st : St) : Option (Int64 × St) := K43 v1 v2 v3 v5 v6 (v7 + 1) st
set_option maxHeartbeats 4000000 in
set_option maxRecDepth 100000 in
theorem wX11_calmest_s114 (C : Cx p s m args meth c cX11_calmest 12 wsL_law RX11 (some .long) D G ad) (n : Nat) (K43 : Int32 → Int32 → Int64 → Int32 → Int32 → Int32 → St → Option (Int64 × St))  (v1 : Int32) (v2 : Int32) (v3 : Int64) (v5 : Int32) (v6 : Int32) (v7 : Int32)   (st : St) (res : (Int64 × St)) (hK43 : ∀ (v1 : Int32) (v2 : Int32) (v3 : Int64) (v5 : Int32) (v6 : Int32) (v7 : Int32) (st : St), K43 v1 v2 v3 v5 v6 v7 st = some res → At p l e (rmK 3) s m args below meth c D G ad (MQJ D G ad below args s res) 12 st [(0, .ref (ad 130)), (1, .int v1), (2, .int v2), (3, .long v3), (5, .int v5), (6, .int v6), (7, .int v7)] 43 []) (hf : fX11_calmest_s114 n K43  v1 v2 v3 v5 v6 v7 st = some res) : At p l e (rmK 3) s m args below meth c D G ad (MQJ D G ad below args s res) 12 st [(0, .ref (ad 130)), (1, .int v1), (2, .int v2), (3, .long v3), (5, .int v5), (6, .int v6), (7, .int v7)] 114 [] := by
  obtain ⟨hx, hb, hml, hown, hts, hr, hlk, hK, had, hSt⟩ := id C
  intro H locs ls hl hP hS
  unfold fX11_calmest_s114 at hf
  refine lv_iinc (v := v7 + 1) (lv' := [(7, .int (v7 + 1)), (0, .ref (ad 130)), (1, .int v1), (2, .int v2), (3, .long v3), (5, .int v5), (6, .int v6)]) hx hb dX11_calmest_114 hl (k := 6) rfl rfl (by decide) rfl (fun ls hl => ?_)
  refine lv_goto (tgt := 43) hx hb dX11_calmest_117 (by decide) ?_
  exact hK43 v1 v2 v3 v5 v6 (v7 + 1)  st hf H locs ls (lv_sub hl [1, 2, 3, 4, 5, 6, 0] rfl) hP hS
def fX11_calmest_s111 (n : Nat)   (v8 : Int64) (st : St) : Option (Int64 × St) := some (v8, st)
set_option maxHeartbeats 4000000 in
set_option maxRecDepth 100000 in
theorem wX11_calmest_s111 (C : Cx p s m args meth c cX11_calmest 12 wsL_law RX11 (some .long) D G ad) (n : Nat)   (v8 : Int64)   (st : St) (res : (Int64 × St))  (hf : fX11_calmest_s111 n   v8 st = some res) : At p l e (rmK 3) s m args below meth c D G ad (MQJ D G ad below args s res) 12 st [(8, .long v8)] 111 [] := by
  obtain ⟨hx, hb, hml, hown, hts, hr, hlk, hK, had, hSt⟩ := id C
  intro H locs ls hl hP hS
  unfold fX11_calmest_s111 at hf
  refine lv_lload hx hb dX11_calmest_111 (lv_at hl 0 rfl) ?_
  exact g_lret hx hb hr hlk hP hS dX11_calmest_113 hf
def fX11_calmest_s108 (n : Nat) (K43 : Int32 → Int32 → Int64 → Int32 → Int32 → Int32 → St → Option (Int64 × St))  (v1 : Int32) (v2 : Int32) (v3 : Int64) (v5 : Int32) (v6 : Int32) (v7 : Int32) (v8 : Int64) (k0 : Int32) (st : St) : Option (Int64 × St) := if k0 = 0 then fX11_calmest_s114 n K43 v1 v2 v3 v5 v6 v7 st else fX11_calmest_s111 n v8 st
set_option maxHeartbeats 4000000 in
set_option maxRecDepth 100000 in
theorem wX11_calmest_s108 (C : Cx p s m args meth c cX11_calmest 12 wsL_law RX11 (some .long) D G ad) (n : Nat) (K43 : Int32 → Int32 → Int64 → Int32 → Int32 → Int32 → St → Option (Int64 × St))  (v1 : Int32) (v2 : Int32) (v3 : Int64) (v5 : Int32) (v6 : Int32) (v7 : Int32) (v8 : Int64) (k0 : Int32)   (st : St) (res : (Int64 × St)) (hK43 : ∀ (v1 : Int32) (v2 : Int32) (v3 : Int64) (v5 : Int32) (v6 : Int32) (v7 : Int32) (st : St), K43 v1 v2 v3 v5 v6 v7 st = some res → At p l e (rmK 3) s m args below meth c D G ad (MQJ D G ad below args s res) 12 st [(0, .ref (ad 130)), (1, .int v1), (2, .int v2), (3, .long v3), (5, .int v5), (6, .int v6), (7, .int v7)] 43 []) (hf : fX11_calmest_s108 n K43  v1 v2 v3 v5 v6 v7 v8 k0 st = some res) : At p l e (rmK 3) s m args below meth c D G ad (MQJ D G ad below args s res) 12 st [(0, .ref (ad 130)), (1, .int v1), (2, .int v2), (3, .long v3), (5, .int v5), (6, .int v6), (7, .int v7), (8, .long v8)] 108 [.int k0] := by
  obtain ⟨hx, hb, hml, hown, hts, hr, hlk, hK, had, hSt⟩ := id C
  intro H locs ls hl hP hS
  unfold fX11_calmest_s108 at hf
  refine lv_if_eq (tgt := 114) hx hb dX11_calmest_108 (by decide) (fun q => ?_) (fun q => ?_)
  · exact wX11_calmest_s114 C n K43 v1 v2 v3 v5 v6 v7 st res hK43 (it hf q) H locs ls (lv_sub hl [0, 1, 2, 3, 4, 5, 6] rfl) hP hS
  · exact wX11_calmest_s111 C n v8 st res (ie hf q) H locs ls (lv_sub hl [7] rfl) hP hS
def fX11_calmest_s97 (n : Nat) (K43 : Int32 → Int32 → Int64 → Int32 → Int32 → Int32 → St → Option (Int64 × St))  (v1 : Int32) (v2 : Int32) (v3 : Int64) (v5 : Int32) (v6 : Int32) (v7 : Int32) (v8 : Int64) (st : St) : Option (Int64 × St) := (fX11_isCalm n v1 v2 v3 v8 v5 st).bind (fun q => fX11_calmest_s108 n K43 v1 v2 v3 v5 v6 v7 v8 q.1 q.2)
set_option maxHeartbeats 4000000 in
set_option maxRecDepth 100000 in
theorem wX11_calmest_s97 (C : Cx p s m args meth c cX11_calmest 12 wsL_law RX11 (some .long) D G ad) (n : Nat) (K43 : Int32 → Int32 → Int64 → Int32 → Int32 → Int32 → St → Option (Int64 × St))  (v1 : Int32) (v2 : Int32) (v3 : Int64) (v5 : Int32) (v6 : Int32) (v7 : Int32) (v8 : Int64)   (st : St) (res : (Int64 × St)) (hK43 : ∀ (v1 : Int32) (v2 : Int32) (v3 : Int64) (v5 : Int32) (v6 : Int32) (v7 : Int32) (st : St), K43 v1 v2 v3 v5 v6 v7 st = some res → At p l e (rmK 3) s m args below meth c D G ad (MQJ D G ad below args s res) 12 st [(0, .ref (ad 130)), (1, .int v1), (2, .int v2), (3, .long v3), (5, .int v5), (6, .int v6), (7, .int v7)] 43 []) (hf : fX11_calmest_s97 n K43  v1 v2 v3 v5 v6 v7 v8 st = some res) : At p l e (rmK 3) s m args below meth c D G ad (MQJ D G ad below args s res) 12 st [(0, .ref (ad 130)), (1, .int v1), (2, .int v2), (3, .long v3), (5, .int v5), (6, .int v6), (7, .int v7), (8, .long v8)] 97 [] := by
  obtain ⟨hx, hb, hml, hown, hts, hr, hlk, hK, had, hSt⟩ := id C
  intro H locs ls hl hP hS
  unfold fX11_calmest_s97 at hf
  refine lv_aload_n hx hb dX11_calmest_97 rfl (lv_at hl 0 rfl) ?_
  refine lv_iload_n hx hb dX11_calmest_98 rfl (lv_at hl 1 rfl) ?_
  refine lv_iload_n hx hb dX11_calmest_99 rfl (lv_at hl 2 rfl) ?_
  refine lv_lload_n hx hb dX11_calmest_100 rfl (lv_at hl 3 rfl) ?_
  refine lv_lload hx hb dX11_calmest_101 (lv_at hl 7 rfl) ?_
  refine lv_iload hx hb dX11_calmest_103 (lv_at hl 4 rfl) ?_
  obtain ⟨q, hq, hf⟩ := bd hf
  refine gcV_i (k := 2) (o := 130) (As := [.int v1, .int v2, .long v3, .long v8, .int v5]) (rest := []) hx hb hml hown hts hK hSt hP hS hl.1 (goodV wm_49_12 wm_49_13 wm_49_14 wm_1_5 wm_49_15) okX11_isCalm ct_130 rfl rfl (Nat.le_of_ble_eq_true rfl) (Nat.le_of_ble_eq_true rfl) rfl rfl (Nat.le_of_ble_eq_true rfl) dX11_calmest_105 (kX11_isCalm l D G ad had n  v1 v2 v3 v8 v5 st q hq) (fun H locs hP hS => ?_)
  exact wX11_calmest_s108 C n K43 v1 v2 v3 v5 v6 v7 v8 q.1 q.2 res hK43 hf H locs ls (lv_sub hl [0, 1, 2, 3, 4, 5, 6, 7] rfl) hP hS
def fX11_calmest_s68 (n : Nat) (K43 : Int32 → Int32 → Int64 → Int32 → Int32 → Int32 → St → Option (Int64 × St)) (K63 : Int32 → Int32 → Int64 → Int32 → Int32 → Int32 → Int64 → Int32 → Int32 → St → Option (Int64 × St))  (v1 : Int32) (v2 : Int32) (v3 : Int64) (v5 : Int32) (v6 : Int32) (v7 : Int32) (v8 : Int64) (v10 : Int32) (v11 : Int32) (st : St) : Option (Int64 × St) := K63 v1 v2 v3 v5 v6 v7 (v8 ||| (((v10 - v10 / 13 * 13).toInt64) <<< ((4 * v11).toInt64 &&& 63))) (v10 / 13) (v11 + (-1)) st
set_option maxHeartbeats 4000000 in
set_option maxRecDepth 100000 in
theorem wX11_calmest_s68 (C : Cx p s m args meth c cX11_calmest 12 wsL_law RX11 (some .long) D G ad) (n : Nat) (K43 : Int32 → Int32 → Int64 → Int32 → Int32 → Int32 → St → Option (Int64 × St)) (K63 : Int32 → Int32 → Int64 → Int32 → Int32 → Int32 → Int64 → Int32 → Int32 → St → Option (Int64 × St))  (v1 : Int32) (v2 : Int32) (v3 : Int64) (v5 : Int32) (v6 : Int32) (v7 : Int32) (v8 : Int64) (v10 : Int32) (v11 : Int32)   (st : St) (res : (Int64 × St)) (hK43 : ∀ (v1 : Int32) (v2 : Int32) (v3 : Int64) (v5 : Int32) (v6 : Int32) (v7 : Int32) (st : St), K43 v1 v2 v3 v5 v6 v7 st = some res → At p l e (rmK 3) s m args below meth c D G ad (MQJ D G ad below args s res) 12 st [(0, .ref (ad 130)), (1, .int v1), (2, .int v2), (3, .long v3), (5, .int v5), (6, .int v6), (7, .int v7)] 43 []) (hK63 : ∀ (v1 : Int32) (v2 : Int32) (v3 : Int64) (v5 : Int32) (v6 : Int32) (v7 : Int32) (v8 : Int64) (v10 : Int32) (v11 : Int32) (st : St), K63 v1 v2 v3 v5 v6 v7 v8 v10 v11 st = some res → At p l e (rmK 3) s m args below meth c D G ad (MQJ D G ad below args s res) 12 st [(0, .ref (ad 130)), (1, .int v1), (2, .int v2), (3, .long v3), (5, .int v5), (6, .int v6), (7, .int v7), (8, .long v8), (10, .int v10), (11, .int v11)] 63 []) (hf : fX11_calmest_s68 n K43 K63  v1 v2 v3 v5 v6 v7 v8 v10 v11 st = some res) : At p l e (rmK 3) s m args below meth c D G ad (MQJ D G ad below args s res) 12 st [(0, .ref (ad 130)), (1, .int v1), (2, .int v2), (3, .long v3), (5, .int v5), (6, .int v6), (7, .int v7), (8, .long v8), (10, .int v10), (11, .int v11)] 68 [] := by
  obtain ⟨hx, hb, hml, hown, hts, hr, hlk, hK, had, hSt⟩ := id C
  intro H locs ls hl hP hS
  unfold fX11_calmest_s68 at hf
  refine lv_lload hx hb dX11_calmest_68 (lv_at hl 7 rfl) ?_
  refine lv_iload hx hb dX11_calmest_70 (lv_at hl 8 rfl) ?_
  refine lv_bipush (v := 13) hx hb dX11_calmest_72 (by decide) ?_
  refine lv_irem hx hb dX11_calmest_74 (by decide) ?_
  refine lv_i2l hx hb dX11_calmest_75 rfl ?_
  refine lv_iconst (v := 4) hx hb dX11_calmest_76 (by decide) ?_
  refine lv_iload hx hb dX11_calmest_77 (lv_at hl 9 rfl) ?_
  refine lv_imul hx hb dX11_calmest_79 ?_
  refine lv_lshl hx hb dX11_calmest_80 rfl ?_
  refine lv_lor hx hb dX11_calmest_81 ?_
  refine lv_lstore (lv' := [(8, .long (v8 ||| (((v10 - v10 / 13 * 13).toInt64) <<< ((4 * v11).toInt64 &&& 63)))), (0, .ref (ad 130)), (1, .int v1), (2, .int v2), (3, .long v3), (5, .int v5), (6, .int v6), (7, .int v7), (10, .int v10), (11, .int v11)]) hx hb dX11_calmest_82 hl (by decide) rfl (fun ls hl => ?_)
  refine lv_iload hx hb dX11_calmest_84 (lv_at hl 8 rfl) ?_
  refine lv_bipush (v := 13) hx hb dX11_calmest_86 (by decide) ?_
  refine lv_idiv hx hb dX11_calmest_88 (by decide) ?_
  refine lv_istore (lv' := [(10, .int (v10 / 13)), (8, .long (v8 ||| (((v10 - v10 / 13 * 13).toInt64) <<< ((4 * v11).toInt64 &&& 63)))), (0, .ref (ad 130)), (1, .int v1), (2, .int v2), (3, .long v3), (5, .int v5), (6, .int v6), (7, .int v7), (11, .int v11)]) hx hb dX11_calmest_89 hl (by decide) rfl (fun ls hl => ?_)
  refine lv_iinc (v := v11 + (-1)) (lv' := [(11, .int (v11 + (-1))), (10, .int (v10 / 13)), (8, .long (v8 ||| (((v10 - v10 / 13 * 13).toInt64) <<< ((4 * v11).toInt64 &&& 63)))), (0, .ref (ad 130)), (1, .int v1), (2, .int v2), (3, .long v3), (5, .int v5), (6, .int v6), (7, .int v7)]) hx hb dX11_calmest_91 hl (k := 9) rfl rfl (by decide) rfl (fun ls hl => ?_)
  refine lv_goto (tgt := 63) hx hb dX11_calmest_94 (by decide) ?_
  exact hK63 v1 v2 v3 v5 v6 v7 (v8 ||| (((v10 - v10 / 13 * 13).toInt64) <<< ((4 * v11).toInt64 &&& 63))) (v10 / 13) (v11 + (-1))  st hf H locs ls (lv_sub hl [3, 4, 5, 6, 7, 8, 9, 2, 1, 0] rfl) hP hS
def fX11_calmest_s63 (n : Nat) (K43 : Int32 → Int32 → Int64 → Int32 → Int32 → Int32 → St → Option (Int64 × St)) (K63 : Int32 → Int32 → Int64 → Int32 → Int32 → Int32 → Int64 → Int32 → Int32 → St → Option (Int64 × St))  (v1 : Int32) (v2 : Int32) (v3 : Int64) (v5 : Int32) (v6 : Int32) (v7 : Int32) (v8 : Int64) (v10 : Int32) (v11 : Int32) (st : St) : Option (Int64 × St) := if v11 < 0 then fX11_calmest_s97 n K43 v1 v2 v3 v5 v6 v7 v8 st else fX11_calmest_s68 n K43 K63 v1 v2 v3 v5 v6 v7 v8 v10 v11 st
set_option maxHeartbeats 4000000 in
set_option maxRecDepth 100000 in
theorem wX11_calmest_s63 (C : Cx p s m args meth c cX11_calmest 12 wsL_law RX11 (some .long) D G ad) (n : Nat) (K43 : Int32 → Int32 → Int64 → Int32 → Int32 → Int32 → St → Option (Int64 × St)) (K63 : Int32 → Int32 → Int64 → Int32 → Int32 → Int32 → Int64 → Int32 → Int32 → St → Option (Int64 × St))  (v1 : Int32) (v2 : Int32) (v3 : Int64) (v5 : Int32) (v6 : Int32) (v7 : Int32) (v8 : Int64) (v10 : Int32) (v11 : Int32)   (st : St) (res : (Int64 × St)) (hK43 : ∀ (v1 : Int32) (v2 : Int32) (v3 : Int64) (v5 : Int32) (v6 : Int32) (v7 : Int32) (st : St), K43 v1 v2 v3 v5 v6 v7 st = some res → At p l e (rmK 3) s m args below meth c D G ad (MQJ D G ad below args s res) 12 st [(0, .ref (ad 130)), (1, .int v1), (2, .int v2), (3, .long v3), (5, .int v5), (6, .int v6), (7, .int v7)] 43 []) (hK63 : ∀ (v1 : Int32) (v2 : Int32) (v3 : Int64) (v5 : Int32) (v6 : Int32) (v7 : Int32) (v8 : Int64) (v10 : Int32) (v11 : Int32) (st : St), K63 v1 v2 v3 v5 v6 v7 v8 v10 v11 st = some res → At p l e (rmK 3) s m args below meth c D G ad (MQJ D G ad below args s res) 12 st [(0, .ref (ad 130)), (1, .int v1), (2, .int v2), (3, .long v3), (5, .int v5), (6, .int v6), (7, .int v7), (8, .long v8), (10, .int v10), (11, .int v11)] 63 []) (hf : fX11_calmest_s63 n K43 K63  v1 v2 v3 v5 v6 v7 v8 v10 v11 st = some res) : At p l e (rmK 3) s m args below meth c D G ad (MQJ D G ad below args s res) 12 st [(0, .ref (ad 130)), (1, .int v1), (2, .int v2), (3, .long v3), (5, .int v5), (6, .int v6), (7, .int v7), (8, .long v8), (10, .int v10), (11, .int v11)] 63 [] := by
  obtain ⟨hx, hb, hml, hown, hts, hr, hlk, hK, had, hSt⟩ := id C
  intro H locs ls hl hP hS
  unfold fX11_calmest_s63 at hf
  refine lv_iload hx hb dX11_calmest_63 (lv_at hl 9 rfl) ?_
  refine lv_if_lt (tgt := 97) hx hb dX11_calmest_65 (by decide) (fun q => ?_) (fun q => ?_)
  · exact wX11_calmest_s97 C n K43 v1 v2 v3 v5 v6 v7 v8 st res hK43 (it hf q) H locs ls (lv_sub hl [0, 1, 2, 3, 4, 5, 6, 7] rfl) hP hS
  · exact wX11_calmest_s68 C n K43 K63 v1 v2 v3 v5 v6 v7 v8 v10 v11 st res hK43 hK63 (ie hf q) H locs ls (lv_sub hl [0, 1, 2, 3, 4, 5, 6, 7, 8, 9] rfl) hP hS
def fX11_calmest_L63 (n : Nat) (K43 : Int32 → Int32 → Int64 → Int32 → Int32 → Int32 → St → Option (Int64 × St))  : Nat → Int32 → Int32 → Int64 → Int32 → Int32 → Int32 → Int64 → Int32 → Int32 → St → Option (Int64 × St)
  | 0, _, _, _, _, _, _, _, _, _, _ => none
  | k + 1, v1, v2, v3, v5, v6, v7, v8, v10, v11, st => fX11_calmest_s63 n K43 (fX11_calmest_L63 n K43 k)  v1 v2 v3 v5 v6 v7 v8 v10 v11 st
theorem wX11_calmest_L63 (C : Cx p s m args meth c cX11_calmest 12 wsL_law RX11 (some .long) D G ad) (n : Nat) (K43 : Int32 → Int32 → Int64 → Int32 → Int32 → Int32 → St → Option (Int64 × St))   (res : (Int64 × St)) (hK43 : ∀ (v1 : Int32) (v2 : Int32) (v3 : Int64) (v5 : Int32) (v6 : Int32) (v7 : Int32) (st : St), K43 v1 v2 v3 v5 v6 v7 st = some res → At p l e (rmK 3) s m args below meth c D G ad (MQJ D G ad below args s res) 12 st [(0, .ref (ad 130)), (1, .int v1), (2, .int v2), (3, .long v3), (5, .int v5), (6, .int v6), (7, .int v7)] 43 []) : ∀ (k : Nat) (v1 : Int32) (v2 : Int32) (v3 : Int64) (v5 : Int32) (v6 : Int32) (v7 : Int32) (v8 : Int64) (v10 : Int32) (v11 : Int32)  (st : St), fX11_calmest_L63 n K43 k v1 v2 v3 v5 v6 v7 v8 v10 v11 st = some res → At p l e (rmK 3) s m args below meth c D G ad (MQJ D G ad below args s res) 12 st [(0, .ref (ad 130)), (1, .int v1), (2, .int v2), (3, .long v3), (5, .int v5), (6, .int v6), (7, .int v7), (8, .long v8), (10, .int v10), (11, .int v11)] 63 [] := by
  intro k
  induction k with
  | zero => intro v1 v2 v3 v5 v6 v7 v8 v10 v11  st h; exact absurd h (by intro q; cases q)
  | succ k ih => intro v1 v2 v3 v5 v6 v7 v8 v10 v11  st h; exact wX11_calmest_s63 C n K43 (fX11_calmest_L63 n K43 k)  v1 v2 v3 v5 v6 v7 v8 v10 v11   st res hK43 ih h
def fX11_calmest_s50 (n : Nat) (K43 : Int32 → Int32 → Int64 → Int32 → Int32 → Int32 → St → Option (Int64 × St))  (v1 : Int32) (v2 : Int32) (v3 : Int64) (v5 : Int32) (v6 : Int32) (v7 : Int32) (st : St) : Option (Int64 × St) := fX11_calmest_L63 n K43 n v1 v2 v3 v5 v6 v7 0 v7 (v5 - 1) st
set_option maxHeartbeats 4000000 in
set_option maxRecDepth 100000 in
theorem wX11_calmest_s50 (C : Cx p s m args meth c cX11_calmest 12 wsL_law RX11 (some .long) D G ad) (n : Nat) (K43 : Int32 → Int32 → Int64 → Int32 → Int32 → Int32 → St → Option (Int64 × St))  (v1 : Int32) (v2 : Int32) (v3 : Int64) (v5 : Int32) (v6 : Int32) (v7 : Int32)   (st : St) (res : (Int64 × St)) (hK43 : ∀ (v1 : Int32) (v2 : Int32) (v3 : Int64) (v5 : Int32) (v6 : Int32) (v7 : Int32) (st : St), K43 v1 v2 v3 v5 v6 v7 st = some res → At p l e (rmK 3) s m args below meth c D G ad (MQJ D G ad below args s res) 12 st [(0, .ref (ad 130)), (1, .int v1), (2, .int v2), (3, .long v3), (5, .int v5), (6, .int v6), (7, .int v7)] 43 []) (hf : fX11_calmest_s50 n K43  v1 v2 v3 v5 v6 v7 st = some res) : At p l e (rmK 3) s m args below meth c D G ad (MQJ D G ad below args s res) 12 st [(0, .ref (ad 130)), (1, .int v1), (2, .int v2), (3, .long v3), (5, .int v5), (6, .int v6), (7, .int v7)] 50 [] := by
  obtain ⟨hx, hb, hml, hown, hts, hr, hlk, hK, had, hSt⟩ := id C
  intro H locs ls hl hP hS
  unfold fX11_calmest_s50 at hf
  refine lv_lconst (v := 0) hx hb dX11_calmest_50 (by decide) ?_
  refine lv_lstore (lv' := [(8, .long 0), (0, .ref (ad 130)), (1, .int v1), (2, .int v2), (3, .long v3), (5, .int v5), (6, .int v6), (7, .int v7)]) hx hb dX11_calmest_51 hl (by decide) rfl (fun ls hl => ?_)
  refine lv_iload hx hb dX11_calmest_53 (lv_at hl 7 rfl) ?_
  refine lv_istore (lv' := [(10, .int v7), (8, .long 0), (0, .ref (ad 130)), (1, .int v1), (2, .int v2), (3, .long v3), (5, .int v5), (6, .int v6), (7, .int v7)]) hx hb dX11_calmest_55 hl (by decide) rfl (fun ls hl => ?_)
  refine lv_iload hx hb dX11_calmest_57 (lv_at hl 6 rfl) ?_
  refine lv_iconst (v := 1) hx hb dX11_calmest_59 (by decide) ?_
  refine lv_isub hx hb dX11_calmest_60 ?_
  refine lv_istore (lv' := [(11, .int (v5 - 1)), (10, .int v7), (8, .long 0), (0, .ref (ad 130)), (1, .int v1), (2, .int v2), (3, .long v3), (5, .int v5), (6, .int v6), (7, .int v7)]) hx hb dX11_calmest_61 hl (by decide) rfl (fun ls hl => ?_)
  exact wX11_calmest_L63 C n K43 res hK43 n v1 v2 v3 v5 v6 v7 0 v7 (v5 - 1) st hf H locs ls (lv_sub hl [3, 4, 5, 6, 7, 8, 9, 2, 1, 0] rfl) hP hS
def fX11_calmest_s43 (n : Nat) (K43 : Int32 → Int32 → Int64 → Int32 → Int32 → Int32 → St → Option (Int64 × St))  (v1 : Int32) (v2 : Int32) (v3 : Int64) (v5 : Int32) (v6 : Int32) (v7 : Int32) (st : St) : Option (Int64 × St) := if v6 ≤ v7 then fX11_calmest_s120 n st else fX11_calmest_s50 n K43 v1 v2 v3 v5 v6 v7 st
set_option maxHeartbeats 4000000 in
set_option maxRecDepth 100000 in
theorem wX11_calmest_s43 (C : Cx p s m args meth c cX11_calmest 12 wsL_law RX11 (some .long) D G ad) (n : Nat) (K43 : Int32 → Int32 → Int64 → Int32 → Int32 → Int32 → St → Option (Int64 × St))  (v1 : Int32) (v2 : Int32) (v3 : Int64) (v5 : Int32) (v6 : Int32) (v7 : Int32)   (st : St) (res : (Int64 × St)) (hK43 : ∀ (v1 : Int32) (v2 : Int32) (v3 : Int64) (v5 : Int32) (v6 : Int32) (v7 : Int32) (st : St), K43 v1 v2 v3 v5 v6 v7 st = some res → At p l e (rmK 3) s m args below meth c D G ad (MQJ D G ad below args s res) 12 st [(0, .ref (ad 130)), (1, .int v1), (2, .int v2), (3, .long v3), (5, .int v5), (6, .int v6), (7, .int v7)] 43 []) (hf : fX11_calmest_s43 n K43  v1 v2 v3 v5 v6 v7 st = some res) : At p l e (rmK 3) s m args below meth c D G ad (MQJ D G ad below args s res) 12 st [(0, .ref (ad 130)), (1, .int v1), (2, .int v2), (3, .long v3), (5, .int v5), (6, .int v6), (7, .int v7)] 43 [] := by
  obtain ⟨hx, hb, hml, hown, hts, hr, hlk, hK, had, hSt⟩ := id C
  intro H locs ls hl hP hS
  unfold fX11_calmest_s43 at hf
  refine lv_iload hx hb dX11_calmest_43 (lv_at hl 6 rfl) ?_
  refine lv_iload hx hb dX11_calmest_45 (lv_at hl 5 rfl) ?_
  refine lv_icmp_ge (tgt := 120) hx hb dX11_calmest_47 (by decide) (fun q => ?_) (fun q => ?_)
  · exact wX11_calmest_s120 C n st res (it hf q) H locs ls (lv_sub hl [] rfl) hP hS
  · exact wX11_calmest_s50 C n K43 v1 v2 v3 v5 v6 v7 st res hK43 (ie hf q) H locs ls (lv_sub hl [0, 1, 2, 3, 4, 5, 6] rfl) hP hS
def fX11_calmest_L43 (n : Nat)   : Nat → Int32 → Int32 → Int64 → Int32 → Int32 → Int32 → St → Option (Int64 × St)
  | 0, _, _, _, _, _, _, _ => none
  | k + 1, v1, v2, v3, v5, v6, v7, st => fX11_calmest_s43 n (fX11_calmest_L43 n k)  v1 v2 v3 v5 v6 v7 st
theorem wX11_calmest_L43 (C : Cx p s m args meth c cX11_calmest 12 wsL_law RX11 (some .long) D G ad) (n : Nat)    (res : (Int64 × St))  : ∀ (k : Nat) (v1 : Int32) (v2 : Int32) (v3 : Int64) (v5 : Int32) (v6 : Int32) (v7 : Int32)  (st : St), fX11_calmest_L43 n k v1 v2 v3 v5 v6 v7 st = some res → At p l e (rmK 3) s m args below meth c D G ad (MQJ D G ad below args s res) 12 st [(0, .ref (ad 130)), (1, .int v1), (2, .int v2), (3, .long v3), (5, .int v5), (6, .int v6), (7, .int v7)] 43 [] := by
  intro k
  induction k with
  | zero => intro v1 v2 v3 v5 v6 v7  st h; exact absurd h (by intro q; cases q)
  | succ k ih => intro v1 v2 v3 v5 v6 v7  st h; exact wX11_calmest_s43 C n (fX11_calmest_L43 n k)  v1 v2 v3 v5 v6 v7   st res ih h
def fX11_calmest_s38 (n : Nat)   (v1 : Int32) (v2 : Int32) (v3 : Int64) (v5 : Int32) (k0 : Int32) (st : St) : Option (Int64 × St) := fX11_calmest_L43 n n v1 v2 v3 v5 k0 0 st
set_option maxHeartbeats 4000000 in
set_option maxRecDepth 100000 in
theorem wX11_calmest_s38 (C : Cx p s m args meth c cX11_calmest 12 wsL_law RX11 (some .long) D G ad) (n : Nat)   (v1 : Int32) (v2 : Int32) (v3 : Int64) (v5 : Int32) (k0 : Int32)   (st : St) (res : (Int64 × St))  (hf : fX11_calmest_s38 n   v1 v2 v3 v5 k0 st = some res) : At p l e (rmK 3) s m args below meth c D G ad (MQJ D G ad below args s res) 12 st [(0, .ref (ad 130)), (1, .int v1), (2, .int v2), (3, .long v3), (5, .int v5)] 38 [.int k0] := by
  obtain ⟨hx, hb, hml, hown, hts, hr, hlk, hK, had, hSt⟩ := id C
  intro H locs ls hl hP hS
  unfold fX11_calmest_s38 at hf
  refine lv_istore (lv' := [(6, .int k0), (0, .ref (ad 130)), (1, .int v1), (2, .int v2), (3, .long v3), (5, .int v5)]) hx hb dX11_calmest_38 hl (by decide) rfl (fun ls hl => ?_)
  refine lv_iconst (v := 0) hx hb dX11_calmest_40 (by decide) ?_
  refine lv_istore (lv' := [(7, .int 0), (6, .int k0), (0, .ref (ad 130)), (1, .int v1), (2, .int v2), (3, .long v3), (5, .int v5)]) hx hb dX11_calmest_41 hl (by decide) rfl (fun ls hl => ?_)
  exact wX11_calmest_L43 C n res n v1 v2 v3 v5 k0 0 st hf H locs ls (lv_sub hl [2, 3, 4, 5, 6, 1, 0] rfl) hP hS
def fX11_calmest_s35 (n : Nat)   (v1 : Int32) (v2 : Int32) (v3 : Int64) (v5 : Int32) (st : St) : Option (Int64 × St) := fX11_calmest_s38 n v1 v2 v3 v5 2197 st
set_option maxHeartbeats 4000000 in
set_option maxRecDepth 100000 in
theorem wX11_calmest_s35 (C : Cx p s m args meth c cX11_calmest 12 wsL_law RX11 (some .long) D G ad) (n : Nat)   (v1 : Int32) (v2 : Int32) (v3 : Int64) (v5 : Int32)   (st : St) (res : (Int64 × St))  (hf : fX11_calmest_s35 n   v1 v2 v3 v5 st = some res) : At p l e (rmK 3) s m args below meth c D G ad (MQJ D G ad below args s res) 12 st [(0, .ref (ad 130)), (1, .int v1), (2, .int v2), (3, .long v3), (5, .int v5)] 35 [] := by
  obtain ⟨hx, hb, hml, hown, hts, hr, hlk, hK, had, hSt⟩ := id C
  intro H locs ls hl hP hS
  unfold fX11_calmest_s35 at hf
  refine lv_sipush (v := 2197) hx hb dX11_calmest_35 (by decide) ?_
  exact wX11_calmest_s38 C n v1 v2 v3 v5 2197 st res hf H locs ls (lv_sub hl [0, 1, 2, 3, 4] rfl) hP hS
def fX11_calmest_s29 (n : Nat)   (v1 : Int32) (v2 : Int32) (v3 : Int64) (v5 : Int32) (st : St) : Option (Int64 × St) := fX11_calmest_s38 n v1 v2 v3 v5 169 st
set_option maxHeartbeats 4000000 in
set_option maxRecDepth 100000 in
theorem wX11_calmest_s29 (C : Cx p s m args meth c cX11_calmest 12 wsL_law RX11 (some .long) D G ad) (n : Nat)   (v1 : Int32) (v2 : Int32) (v3 : Int64) (v5 : Int32)   (st : St) (res : (Int64 × St))  (hf : fX11_calmest_s29 n   v1 v2 v3 v5 st = some res) : At p l e (rmK 3) s m args below meth c D G ad (MQJ D G ad below args s res) 12 st [(0, .ref (ad 130)), (1, .int v1), (2, .int v2), (3, .long v3), (5, .int v5)] 29 [] := by
  obtain ⟨hx, hb, hml, hown, hts, hr, hlk, hK, had, hSt⟩ := id C
  intro H locs ls hl hP hS
  unfold fX11_calmest_s29 at hf
  refine lv_sipush (v := 169) hx hb dX11_calmest_29 (by decide) ?_
  refine lv_goto (tgt := 38) hx hb dX11_calmest_32 (by decide) ?_
  exact wX11_calmest_s38 C n v1 v2 v3 v5 169 st res hf H locs ls (lv_sub hl [0, 1, 2, 3, 4] rfl) hP hS
def fX11_calmest_s23 (n : Nat)   (v1 : Int32) (v2 : Int32) (v3 : Int64) (v5 : Int32) (st : St) : Option (Int64 × St) := if v5 = 2 then fX11_calmest_s29 n v1 v2 v3 v5 st else fX11_calmest_s35 n v1 v2 v3 v5 st
set_option maxHeartbeats 4000000 in
set_option maxRecDepth 100000 in
theorem wX11_calmest_s23 (C : Cx p s m args meth c cX11_calmest 12 wsL_law RX11 (some .long) D G ad) (n : Nat)   (v1 : Int32) (v2 : Int32) (v3 : Int64) (v5 : Int32)   (st : St) (res : (Int64 × St))  (hf : fX11_calmest_s23 n   v1 v2 v3 v5 st = some res) : At p l e (rmK 3) s m args below meth c D G ad (MQJ D G ad below args s res) 12 st [(0, .ref (ad 130)), (1, .int v1), (2, .int v2), (3, .long v3), (5, .int v5)] 23 [] := by
  obtain ⟨hx, hb, hml, hown, hts, hr, hlk, hK, had, hSt⟩ := id C
  intro H locs ls hl hP hS
  unfold fX11_calmest_s23 at hf
  refine lv_iload hx hb dX11_calmest_23 (lv_at hl 4 rfl) ?_
  refine lv_iconst (v := 2) hx hb dX11_calmest_25 (by decide) ?_
  refine lv_icmp_ne (tgt := 35) hx hb dX11_calmest_26 (by decide) (fun q => ?_) (fun q => ?_)
  · exact wX11_calmest_s35 C n v1 v2 v3 v5 st res (ie hf q) H locs ls (lv_sub hl [0, 1, 2, 3, 4] rfl) hP hS
  · exact wX11_calmest_s29 C n v1 v2 v3 v5 st res (it hf q) H locs ls (lv_sub hl [0, 1, 2, 3, 4] rfl) hP hS
def fX11_calmest_s13 (n : Nat)   (v1 : Int32) (v2 : Int32) (v3 : Int64) (v5 : Int32) (st : St) : Option (Int64 × St) := if v5 = 4 then fX11_calmest_s19 n st else fX11_calmest_s23 n v1 v2 v3 v5 st
set_option maxHeartbeats 4000000 in
set_option maxRecDepth 100000 in
theorem wX11_calmest_s13 (C : Cx p s m args meth c cX11_calmest 12 wsL_law RX11 (some .long) D G ad) (n : Nat)   (v1 : Int32) (v2 : Int32) (v3 : Int64) (v5 : Int32)   (st : St) (res : (Int64 × St))  (hf : fX11_calmest_s13 n   v1 v2 v3 v5 st = some res) : At p l e (rmK 3) s m args below meth c D G ad (MQJ D G ad below args s res) 12 st [(0, .ref (ad 130)), (1, .int v1), (2, .int v2), (3, .long v3), (5, .int v5)] 13 [] := by
  obtain ⟨hx, hb, hml, hown, hts, hr, hlk, hK, had, hSt⟩ := id C
  intro H locs ls hl hP hS
  unfold fX11_calmest_s13 at hf
  refine lv_iload hx hb dX11_calmest_13 (lv_at hl 4 rfl) ?_
  refine lv_iconst (v := 4) hx hb dX11_calmest_15 (by decide) ?_
  refine lv_icmp_ne (tgt := 23) hx hb dX11_calmest_16 (by decide) (fun q => ?_) (fun q => ?_)
  · exact wX11_calmest_s23 C n v1 v2 v3 v5 st res (ie hf q) H locs ls (lv_sub hl [0, 1, 2, 3, 4] rfl) hP hS
  · exact wX11_calmest_s19 C n st res (it hf q) H locs ls (lv_sub hl [] rfl) hP hS
def fX11_calmest_s10 (n : Nat)   (v1 : Int32) (v2 : Int32) (v3 : Int64) (v5 : Int32) (k0 : Int32) (st : St) : Option (Int64 × St) := if k0 = 0 then fX11_calmest_s19 n st else fX11_calmest_s13 n v1 v2 v3 v5 st
set_option maxHeartbeats 4000000 in
set_option maxRecDepth 100000 in
theorem wX11_calmest_s10 (C : Cx p s m args meth c cX11_calmest 12 wsL_law RX11 (some .long) D G ad) (n : Nat)   (v1 : Int32) (v2 : Int32) (v3 : Int64) (v5 : Int32) (k0 : Int32)   (st : St) (res : (Int64 × St))  (hf : fX11_calmest_s10 n   v1 v2 v3 v5 k0 st = some res) : At p l e (rmK 3) s m args below meth c D G ad (MQJ D G ad below args s res) 12 st [(0, .ref (ad 130)), (1, .int v1), (2, .int v2), (3, .long v3), (5, .int v5)] 10 [.int k0] := by
  obtain ⟨hx, hb, hml, hown, hts, hr, hlk, hK, had, hSt⟩ := id C
  intro H locs ls hl hP hS
  unfold fX11_calmest_s10 at hf
  refine lv_if_eq (tgt := 19) hx hb dX11_calmest_10 (by decide) (fun q => ?_) (fun q => ?_)
  · exact wX11_calmest_s19 C n st res (it hf q) H locs ls (lv_sub hl [] rfl) hP hS
  · exact wX11_calmest_s13 C n v1 v2 v3 v5 st res (ie hf q) H locs ls (lv_sub hl [0, 1, 2, 3, 4] rfl) hP hS
def fX11_calmest_s0 (n : Nat)   (v1 : Int32) (v2 : Int32) (v3 : Int64) (v5 : Int32) (st : St) : Option (Int64 × St) := (fX11_areClaims n v1 v2 v3 v5 9 st).bind (fun q => fX11_calmest_s10 n v1 v2 v3 v5 q.1 q.2)
set_option maxHeartbeats 4000000 in
set_option maxRecDepth 100000 in
theorem wX11_calmest_s0 (C : Cx p s m args meth c cX11_calmest 12 wsL_law RX11 (some .long) D G ad) (n : Nat)   (v1 : Int32) (v2 : Int32) (v3 : Int64) (v5 : Int32)   (st : St) (res : (Int64 × St))  (hf : fX11_calmest_s0 n   v1 v2 v3 v5 st = some res) : At p l e (rmK 3) s m args below meth c D G ad (MQJ D G ad below args s res) 12 st [(0, .ref (ad 130)), (1, .int v1), (2, .int v2), (3, .long v3), (5, .int v5)] 0 [] := by
  obtain ⟨hx, hb, hml, hown, hts, hr, hlk, hK, had, hSt⟩ := id C
  intro H locs ls hl hP hS
  unfold fX11_calmest_s0 at hf
  refine lv_iload_n hx hb dX11_calmest_0 rfl (lv_at hl 1 rfl) ?_
  refine lv_iload_n hx hb dX11_calmest_1 rfl (lv_at hl 2 rfl) ?_
  refine lv_lload_n hx hb dX11_calmest_2 rfl (lv_at hl 3 rfl) ?_
  refine lv_iload hx hb dX11_calmest_3 (lv_at hl 4 rfl) ?_
  refine lv_bipush (v := 9) hx hb dX11_calmest_5 (by decide) ?_
  obtain ⟨q, hq, hf⟩ := bd hf
  refine gcS_i (k := 1) (As := [.int v1, .int v2, .long v3, .int v5, .int 9]) (rest := []) hx hb hml hown hts hK hSt hP hS hl.1 (goodS wm_48_0 wm_48_1 wm_1_5 wm_48_2) okX11_areClaims (Nat.le_of_ble_eq_true rfl) (Nat.le_of_ble_eq_true rfl) rfl rfl (Nat.le_of_ble_eq_true rfl) dX11_calmest_7 (kX11_areClaims l D G ad had n  v1 v2 v3 v5 9 st q hq) (fun H locs hP hS => ?_)
  exact wX11_calmest_s10 C n v1 v2 v3 v5 q.1 q.2 res hf H locs ls (lv_sub hl [0, 1, 2, 3, 4] rfl) hP hS
def fX11_calmest (n : Nat)  (a1 : Int32) (a2 : Int32) (a3 : Int64) (a5 : Int32) (st : St) : Option (Int64 × St) := fX11_calmest_s0 n a1 a2 a3 a5 st
theorem okX11_calmest : okY yX11_calmest RX11 4 := by unfold okY; decide +kernel
end
set_option maxRecDepth 100000 in
theorem kX11_calmest (l : Launch) (D : va_G) (G : G3) (ad : Nat → Nat) (had : Adr ad) (n : Nat)   (a1 : Int32) (a2 : Int32) (a3 : Int64) (a5 : Int32) (st : St) (res : (Int64 × St)) (hf : fX11_calmest n  a1 a2 a3 a5 st = some res) {sz : Nat} : CtJ l yX11_calmest (wsU yX11_calmest cX11_calmest 12 (some .long)) (rmK 3) D G ad sz [.ref (ad 130), .int a1, .int a2, .long a3, .int a5] st res := by
  refine Met.ofW (cc := cX11_calmest) (maxL := 12) (ret := (some .long)) (by decide) rfl ?_
  intro p e s m args below meth c s₁ B hml hv
  obtain ⟨rfl, hsz, hP, hK, hSt⟩ := hv
  have hts := atoms_spec (ws := wsU yX11_calmest cX11_calmest 12 (some .long)) B.pre
  have C : Cx p s m _ meth c cX11_calmest 12 wsL_law RX11 (some .long) D G ad := ⟨B.exec, B.bytes, hml, findClass_of_methodNamed B.named, fun w h => hts w (List.mem_cons_of_mem _ h), B.returns, B.notSynchronized, hK, had, hSt⟩
  subst hsz
  have hl := lv_entry ([.ref (ad 130), .int a1, .int a2, .long a3, .int a5]) (n := 12) (Nat.le_of_ble_eq_true rfl)
  rw [lg_entry_eq]
  generalize (lg_sl ([.ref (ad 130), .int a1, .int a2, .long a3, .int a5]) ++ List.replicate (12 - (lg_sl ([.ref (ad 130), .int a1, .int a2, .long a3, .int a5])).length) Slot.unset).toArray = ls at hl ⊢
  exact wX11_calmest_s0 C n  a1 a2 a3 a5   st res hf s.heap [] ls (lv_sub hl [0, 1, 2, 3, 4] rfl) hP va_S.rf
section
variable {p : Program} {l : Launch} {e : Env} {s : State} {m : MethodId} {args : Array Value} {below : List Frame} {meth : Method} {c : Code} {D : va_G} {G : G3} {ad : Nat → Nat}
def fX11_count_s40 (n : Nat)    (st : St) : Option (Int32 × St) := some (st.1 130 0, st)
set_option maxHeartbeats 4000000 in
set_option maxRecDepth 100000 in
theorem wX11_count_s40 (C : Cx p s m args meth c cX11_count 4 wsL_law RX11 (some .int) D G ad) (n : Nat)      (st : St) (res : (Int32 × St))  (hf : fX11_count_s40 n    st = some res) : At p l e (rmK 0) s m args below meth c D G ad (MQI D G ad below args s res) 4 st [(0, .ref (ad 130))] 40 [] := by
  obtain ⟨hx, hb, hml, hown, hts, hr, hlk, hK, had, hSt⟩ := id C
  intro H locs ls hl hP hS
  unfold fX11_count_s40 at hf
  refine lv_aload_n hx hb dX11_count_40 rfl (lv_at hl 0 rfl) ?_
  refine g_getI hx hb hts inlX11 hown hK hP 130 ct_130 rfl 0 (by decide) (hts _ wm_10_11) rfl dX11_count_41 ?_
  exact g_iret hx hb hr hlk hP hS dX11_count_44 hf
def fX11_count_s45 (n : Nat)    (st : St) : Option (Int32 × St) := some (st.1 130 28, st)
set_option maxHeartbeats 4000000 in
set_option maxRecDepth 100000 in
theorem wX11_count_s45 (C : Cx p s m args meth c cX11_count 4 wsL_law RX11 (some .int) D G ad) (n : Nat)      (st : St) (res : (Int32 × St))  (hf : fX11_count_s45 n    st = some res) : At p l e (rmK 0) s m args below meth c D G ad (MQI D G ad below args s res) 4 st [(0, .ref (ad 130))] 45 [] := by
  obtain ⟨hx, hb, hml, hown, hts, hr, hlk, hK, had, hSt⟩ := id C
  intro H locs ls hl hP hS
  unfold fX11_count_s45 at hf
  refine lv_aload_n hx hb dX11_count_45 rfl (lv_at hl 0 rfl) ?_
  refine g_getI hx hb hts inlX11 hown hK hP 130 ct_130 rfl 28 (by decide) (hts _ wm_12_5) rfl dX11_count_46 ?_
  exact g_iret hx hb hr hlk hP hS dX11_count_49 hf
def fX11_count_s50 (n : Nat)    (st : St) : Option (Int32 × St) := some (st.1 130 12, st)
set_option maxHeartbeats 4000000 in
set_option maxRecDepth 100000 in
theorem wX11_count_s50 (C : Cx p s m args meth c cX11_count 4 wsL_law RX11 (some .int) D G ad) (n : Nat)      (st : St) (res : (Int32 × St))  (hf : fX11_count_s50 n    st = some res) : At p l e (rmK 0) s m args below meth c D G ad (MQI D G ad below args s res) 4 st [(0, .ref (ad 130))] 50 [] := by
  obtain ⟨hx, hb, hml, hown, hts, hr, hlk, hK, had, hSt⟩ := id C
  intro H locs ls hl hP hS
  unfold fX11_count_s50 at hf
  refine lv_aload_n hx hb dX11_count_50 rfl (lv_at hl 0 rfl) ?_
  refine g_getI hx hb hts inlX11 hown hK hP 130 ct_130 rfl 12 (by decide) (hts _ wm_10_15) rfl dX11_count_51 ?_
  exact g_iret hx hb hr hlk hP hS dX11_count_54 hf
def fX11_count_s55 (n : Nat)    (st : St) : Option (Int32 × St) := some (st.1 130 10, st)
set_option maxHeartbeats 4000000 in
set_option maxRecDepth 100000 in
theorem wX11_count_s55 (C : Cx p s m args meth c cX11_count 4 wsL_law RX11 (some .int) D G ad) (n : Nat)      (st : St) (res : (Int32 × St))  (hf : fX11_count_s55 n    st = some res) : At p l e (rmK 0) s m args below meth c D G ad (MQI D G ad below args s res) 4 st [(0, .ref (ad 130))] 55 [] := by
  obtain ⟨hx, hb, hml, hown, hts, hr, hlk, hK, had, hSt⟩ := id C
  intro H locs ls hl hP hS
  unfold fX11_count_s55 at hf
  refine lv_aload_n hx hb dX11_count_55 rfl (lv_at hl 0 rfl) ?_
  refine g_getI hx hb hts inlX11 hown hK hP 130 ct_130 rfl 10 (by decide) (hts _ wm_12_16) rfl dX11_count_56 ?_
  exact g_iret hx hb hr hlk hP hS dX11_count_59 hf
def fX11_count_s60 (n : Nat)    (st : St) : Option (Int32 × St) := some (st.1 130 32, st)
set_option maxHeartbeats 4000000 in
set_option maxRecDepth 100000 in
theorem wX11_count_s60 (C : Cx p s m args meth c cX11_count 4 wsL_law RX11 (some .int) D G ad) (n : Nat)      (st : St) (res : (Int32 × St))  (hf : fX11_count_s60 n    st = some res) : At p l e (rmK 0) s m args below meth c D G ad (MQI D G ad below args s res) 4 st [(0, .ref (ad 130))] 60 [] := by
  obtain ⟨hx, hb, hml, hown, hts, hr, hlk, hK, had, hSt⟩ := id C
  intro H locs ls hl hP hS
  unfold fX11_count_s60 at hf
  refine lv_aload_n hx hb dX11_count_60 rfl (lv_at hl 0 rfl) ?_
  refine g_getI hx hb hts inlX11 hown hK hP 130 ct_130 rfl 32 (by decide) (hts _ wm_25_11) rfl dX11_count_61 ?_
  exact g_iret hx hb hr hlk hP hS dX11_count_64 hf
def fX11_count_s99 (n : Nat)   (v2 : Int32) (st : St) : Option (Int32 × St) := some (v2, st)
set_option maxHeartbeats 4000000 in
set_option maxRecDepth 100000 in
theorem wX11_count_s99 (C : Cx p s m args meth c cX11_count 4 wsL_law RX11 (some .int) D G ad) (n : Nat)   (v2 : Int32)   (st : St) (res : (Int32 × St))  (hf : fX11_count_s99 n   v2 st = some res) : At p l e (rmK 0) s m args below meth c D G ad (MQI D G ad below args s res) 4 st [(2, .int v2)] 99 [] := by
  obtain ⟨hx, hb, hml, hown, hts, hr, hlk, hK, had, hSt⟩ := id C
  intro H locs ls hl hP hS
  unfold fX11_count_s99 at hf
  refine lv_iload_n hx hb dX11_count_99 rfl (lv_at hl 0 rfl) ?_
  exact g_iret hx hb hr hlk hP hS dX11_count_100 hf
def fX11_count_s91 (n : Nat) (K67 : Int32 → Int32 → St → Option (Int32 × St))  (v3 : Int32) (k0 : Int32) (k1 : Int32) (st : St) : Option (Int32 × St) := K67 (k0 + k1) (v3 + 1) st
set_option maxHeartbeats 4000000 in
set_option maxRecDepth 100000 in
theorem wX11_count_s91 (C : Cx p s m args meth c cX11_count 4 wsL_law RX11 (some .int) D G ad) (n : Nat) (K67 : Int32 → Int32 → St → Option (Int32 × St))  (v3 : Int32) (k0 : Int32) (k1 : Int32)   (st : St) (res : (Int32 × St)) (hK67 : ∀ (v2 : Int32) (v3 : Int32) (st : St), K67 v2 v3 st = some res → At p l e (rmK 0) s m args below meth c D G ad (MQI D G ad below args s res) 4 st [(0, .ref (ad 130)), (2, .int v2), (3, .int v3)] 67 []) (hf : fX11_count_s91 n K67  v3 k0 k1 st = some res) : At p l e (rmK 0) s m args below meth c D G ad (MQI D G ad below args s res) 4 st [(0, .ref (ad 130)), (3, .int v3)] 91 [.int k1, .int k0] := by
  obtain ⟨hx, hb, hml, hown, hts, hr, hlk, hK, had, hSt⟩ := id C
  intro H locs ls hl hP hS
  unfold fX11_count_s91 at hf
  refine lv_iadd hx hb dX11_count_91 ?_
  refine lv_istore_n (lv' := [(2, .int (k0 + k1)), (0, .ref (ad 130)), (3, .int v3)]) hx hb dX11_count_92 rfl hl (by decide) rfl (fun ls hl => ?_)
  refine lv_iinc (v := v3 + 1) (lv' := [(3, .int (v3 + 1)), (2, .int (k0 + k1)), (0, .ref (ad 130))]) hx hb dX11_count_93 hl (k := 2) rfl rfl (by decide) rfl (fun ls hl => ?_)
  refine lv_goto (tgt := 67) hx hb dX11_count_96 (by decide) ?_
  exact hK67 (k0 + k1) (v3 + 1)  st hf H locs ls (lv_sub hl [2, 1, 0] rfl) hP hS
def fX11_count_s90 (n : Nat) (K67 : Int32 → Int32 → St → Option (Int32 × St))  (v3 : Int32) (k0 : Int32) (st : St) : Option (Int32 × St) := fX11_count_s91 n K67 v3 k0 0 st
set_option maxHeartbeats 4000000 in
set_option maxRecDepth 100000 in
theorem wX11_count_s90 (C : Cx p s m args meth c cX11_count 4 wsL_law RX11 (some .int) D G ad) (n : Nat) (K67 : Int32 → Int32 → St → Option (Int32 × St))  (v3 : Int32) (k0 : Int32)   (st : St) (res : (Int32 × St)) (hK67 : ∀ (v2 : Int32) (v3 : Int32) (st : St), K67 v2 v3 st = some res → At p l e (rmK 0) s m args below meth c D G ad (MQI D G ad below args s res) 4 st [(0, .ref (ad 130)), (2, .int v2), (3, .int v3)] 67 []) (hf : fX11_count_s90 n K67  v3 k0 st = some res) : At p l e (rmK 0) s m args below meth c D G ad (MQI D G ad below args s res) 4 st [(0, .ref (ad 130)), (3, .int v3)] 90 [.int k0] := by
  obtain ⟨hx, hb, hml, hown, hts, hr, hlk, hK, had, hSt⟩ := id C
  intro H locs ls hl hP hS
  unfold fX11_count_s90 at hf
  refine lv_iconst (v := 0) hx hb dX11_count_90 (by decide) ?_
  exact wX11_count_s91 C n K67 v3 k0 0 st res hK67 hf H locs ls (lv_sub hl [0, 1] rfl) hP hS
def fX11_count_s86 (n : Nat) (K67 : Int32 → Int32 → St → Option (Int32 × St))  (v3 : Int32) (k0 : Int32) (st : St) : Option (Int32 × St) := fX11_count_s91 n K67 v3 k0 1 st
set_option maxHeartbeats 4000000 in
set_option maxRecDepth 100000 in
theorem wX11_count_s86 (C : Cx p s m args meth c cX11_count 4 wsL_law RX11 (some .int) D G ad) (n : Nat) (K67 : Int32 → Int32 → St → Option (Int32 × St))  (v3 : Int32) (k0 : Int32)   (st : St) (res : (Int32 × St)) (hK67 : ∀ (v2 : Int32) (v3 : Int32) (st : St), K67 v2 v3 st = some res → At p l e (rmK 0) s m args below meth c D G ad (MQI D G ad below args s res) 4 st [(0, .ref (ad 130)), (2, .int v2), (3, .int v3)] 67 []) (hf : fX11_count_s86 n K67  v3 k0 st = some res) : At p l e (rmK 0) s m args below meth c D G ad (MQI D G ad below args s res) 4 st [(0, .ref (ad 130)), (3, .int v3)] 86 [.int k0] := by
  obtain ⟨hx, hb, hml, hown, hts, hr, hlk, hK, had, hSt⟩ := id C
  intro H locs ls hl hP hS
  unfold fX11_count_s86 at hf
  refine lv_iconst (v := 1) hx hb dX11_count_86 (by decide) ?_
  refine lv_goto (tgt := 91) hx hb dX11_count_87 (by decide) ?_
  exact wX11_count_s91 C n K67 v3 k0 1 st res hK67 hf H locs ls (lv_sub hl [0, 1] rfl) hP hS
def fX11_count_s75 (n : Nat) (K67 : Int32 → Int32 → St → Option (Int32 × St))  (v2 : Int32) (v3 : Int32) (st : St) : Option (Int32 × St) := if inb v3 8 = true then (if (st.1 131 v3.toNatClampNeg) = 3 then fX11_count_s86 n K67 v3 v2 st else fX11_count_s90 n K67 v3 v2 st) else none
set_option maxHeartbeats 4000000 in
set_option maxRecDepth 100000 in
theorem wX11_count_s75 (C : Cx p s m args meth c cX11_count 4 wsL_law RX11 (some .int) D G ad) (n : Nat) (K67 : Int32 → Int32 → St → Option (Int32 × St))  (v2 : Int32) (v3 : Int32)   (st : St) (res : (Int32 × St)) (hK67 : ∀ (v2 : Int32) (v3 : Int32) (st : St), K67 v2 v3 st = some res → At p l e (rmK 0) s m args below meth c D G ad (MQI D G ad below args s res) 4 st [(0, .ref (ad 130)), (2, .int v2), (3, .int v3)] 67 []) (hf : fX11_count_s75 n K67  v2 v3 st = some res) : At p l e (rmK 0) s m args below meth c D G ad (MQI D G ad below args s res) 4 st [(0, .ref (ad 130)), (2, .int v2), (3, .int v3)] 75 [] := by
  obtain ⟨hx, hb, hml, hown, hts, hr, hlk, hK, had, hSt⟩ := id C
  intro H locs ls hl hP hS
  unfold fX11_count_s75 at hf
  refine lv_iload_n hx hb dX11_count_75 rfl (lv_at hl 1 rfl) ?_
  refine lv_aload_n hx hb dX11_count_76 rfl (lv_at hl 0 rfl) ?_
  refine g_getR hx hb hts inlX11 hown hK hP 130 ct_130 rfl 1 (by decide) (hts _ wm_7_2) rfl dX11_count_77 ?_
  refine lv_iload_n hx hb dX11_count_80 rfl (lv_at hl 2 rfl) ?_
  obtain ⟨g1, hf⟩ := gd hf
  refine g_iald hx hb hK hP 131 ct_131 g1 dX11_count_81 ?_
  refine lv_iconst (v := 3) hx hb dX11_count_82 (by decide) ?_
  refine lv_icmp_ne (tgt := 90) hx hb dX11_count_83 (by decide) (fun q => ?_) (fun q => ?_)
  · exact wX11_count_s90 C n K67 v3 v2 st res hK67 (ie hf q) H locs ls (lv_sub hl [0, 2] rfl) hP hS
  · exact wX11_count_s86 C n K67 v3 v2 st res hK67 (it hf q) H locs ls (lv_sub hl [0, 2] rfl) hP hS
def fX11_count_s67 (n : Nat) (K67 : Int32 → Int32 → St → Option (Int32 × St))  (v2 : Int32) (v3 : Int32) (st : St) : Option (Int32 × St) := if (st.1 130 0) ≤ v3 then fX11_count_s99 n v2 st else fX11_count_s75 n K67 v2 v3 st
set_option maxHeartbeats 4000000 in
set_option maxRecDepth 100000 in
theorem wX11_count_s67 (C : Cx p s m args meth c cX11_count 4 wsL_law RX11 (some .int) D G ad) (n : Nat) (K67 : Int32 → Int32 → St → Option (Int32 × St))  (v2 : Int32) (v3 : Int32)   (st : St) (res : (Int32 × St)) (hK67 : ∀ (v2 : Int32) (v3 : Int32) (st : St), K67 v2 v3 st = some res → At p l e (rmK 0) s m args below meth c D G ad (MQI D G ad below args s res) 4 st [(0, .ref (ad 130)), (2, .int v2), (3, .int v3)] 67 []) (hf : fX11_count_s67 n K67  v2 v3 st = some res) : At p l e (rmK 0) s m args below meth c D G ad (MQI D G ad below args s res) 4 st [(0, .ref (ad 130)), (2, .int v2), (3, .int v3)] 67 [] := by
  obtain ⟨hx, hb, hml, hown, hts, hr, hlk, hK, had, hSt⟩ := id C
  intro H locs ls hl hP hS
  unfold fX11_count_s67 at hf
  refine lv_iload_n hx hb dX11_count_67 rfl (lv_at hl 2 rfl) ?_
  refine lv_aload_n hx hb dX11_count_68 rfl (lv_at hl 0 rfl) ?_
  refine g_getI hx hb hts inlX11 hown hK hP 130 ct_130 rfl 0 (by decide) (hts _ wm_10_11) rfl dX11_count_69 ?_
  refine lv_icmp_ge (tgt := 99) hx hb dX11_count_72 (by decide) (fun q => ?_) (fun q => ?_)
  · exact wX11_count_s99 C n v2 st res (it hf q) H locs ls (lv_sub hl [1] rfl) hP hS
  · exact wX11_count_s75 C n K67 v2 v3 st res hK67 (ie hf q) H locs ls (lv_sub hl [0, 1, 2] rfl) hP hS
def fX11_count_L67 (n : Nat)   : Nat → Int32 → Int32 → St → Option (Int32 × St)
  | 0, _, _, _ => none
  | k + 1, v2, v3, st => fX11_count_s67 n (fX11_count_L67 n k)  v2 v3 st
theorem wX11_count_L67 (C : Cx p s m args meth c cX11_count 4 wsL_law RX11 (some .int) D G ad) (n : Nat)    (res : (Int32 × St))  : ∀ (k : Nat) (v2 : Int32) (v3 : Int32)  (st : St), fX11_count_L67 n k v2 v3 st = some res → At p l e (rmK 0) s m args below meth c D G ad (MQI D G ad below args s res) 4 st [(0, .ref (ad 130)), (2, .int v2), (3, .int v3)] 67 [] := by
  intro k
  induction k with
  | zero => intro v2 v3  st h; exact absurd h (by intro q; cases q)
  | succ k ih => intro v2 v3  st h; exact wX11_count_s67 C n (fX11_count_L67 n k)  v2 v3   st res ih h
def fX11_count_s65 (n : Nat)   (v2 : Int32) (st : St) : Option (Int32 × St) := fX11_count_L67 n n v2 0 st
set_option maxHeartbeats 4000000 in
set_option maxRecDepth 100000 in
theorem wX11_count_s65 (C : Cx p s m args meth c cX11_count 4 wsL_law RX11 (some .int) D G ad) (n : Nat)   (v2 : Int32)   (st : St) (res : (Int32 × St))  (hf : fX11_count_s65 n   v2 st = some res) : At p l e (rmK 0) s m args below meth c D G ad (MQI D G ad below args s res) 4 st [(0, .ref (ad 130)), (2, .int v2)] 65 [] := by
  obtain ⟨hx, hb, hml, hown, hts, hr, hlk, hK, had, hSt⟩ := id C
  intro H locs ls hl hP hS
  unfold fX11_count_s65 at hf
  refine lv_iconst (v := 0) hx hb dX11_count_65 (by decide) ?_
  refine lv_istore_n (lv' := [(3, .int 0), (0, .ref (ad 130)), (2, .int v2)]) hx hb dX11_count_66 rfl hl (by decide) rfl (fun ls hl => ?_)
  exact wX11_count_L67 C n res n v2 0 st hf H locs ls (lv_sub hl [1, 2, 0] rfl) hP hS
def fX11_count_s101 (n : Nat)    (st : St) : Option (Int32 × St) := some ((-1), st)
set_option maxHeartbeats 4000000 in
set_option maxRecDepth 100000 in
theorem wX11_count_s101 (C : Cx p s m args meth c cX11_count 4 wsL_law RX11 (some .int) D G ad) (n : Nat)      (st : St) (res : (Int32 × St))  (hf : fX11_count_s101 n    st = some res) : At p l e (rmK 0) s m args below meth c D G ad (MQI D G ad below args s res) 4 st [] 101 [] := by
  obtain ⟨hx, hb, hml, hown, hts, hr, hlk, hK, had, hSt⟩ := id C
  intro H locs ls hl hP hS
  unfold fX11_count_s101 at hf
  refine lv_iconst (v := (-1)) hx hb dX11_count_101 (by decide) ?_
  exact g_iret hx hb hr hlk hP hS dX11_count_102 hf
def fX11_count_s0 (n : Nat)   (v1 : Int32) (st : St) : Option (Int32 × St) := if v1 = 0 then fX11_count_s40 n st else if v1 = 1 then fX11_count_s45 n st else if v1 = 2 then fX11_count_s50 n st else if v1 = 3 then fX11_count_s55 n st else if v1 = 4 then fX11_count_s60 n st else if v1 = 5 then fX11_count_s65 n 0 st else fX11_count_s101 n st
set_option maxHeartbeats 4000000 in
set_option maxRecDepth 100000 in
theorem wX11_count_s0 (C : Cx p s m args meth c cX11_count 4 wsL_law RX11 (some .int) D G ad) (n : Nat)   (v1 : Int32)   (st : St) (res : (Int32 × St))  (hf : fX11_count_s0 n   v1 st = some res) : At p l e (rmK 0) s m args below meth c D G ad (MQI D G ad below args s res) 4 st [(0, .ref (ad 130)), (1, .int v1)] 0 [] := by
  obtain ⟨hx, hb, hml, hown, hts, hr, hlk, hK, had, hSt⟩ := id C
  intro H locs ls hl hP hS
  unfold fX11_count_s0 at hf
  refine lv_iconst (v := 0) hx hb dX11_count_0 (by decide) ?_
  refine lv_istore_n (lv' := [(2, .int 0), (0, .ref (ad 130)), (1, .int v1)]) hx hb dX11_count_1 rfl hl (by decide) rfl (fun ls hl => ?_)
  refine lv_iload_n hx hb dX11_count_2 rfl (lv_at hl 2 rfl) ?_
  by_cases q : v1 = 0
  · rw [q]
    refine lv_tableIn (tgt := 40) hx hb dX11_count_3 (by decide) (by decide) rfl (by decide) ?_
    exact wX11_count_s40 C n st res (it hf q) H locs ls (lv_sub hl [1] rfl) hP hS
  replace hf := ie hf q
  have q0 := q
  clear q
  by_cases q : v1 = 1
  · rw [q]
    refine lv_tableIn (tgt := 45) hx hb dX11_count_3 (by decide) (by decide) rfl (by decide) ?_
    exact wX11_count_s45 C n st res (it hf q) H locs ls (lv_sub hl [1] rfl) hP hS
  replace hf := ie hf q
  have q1 := q
  clear q
  by_cases q : v1 = 2
  · rw [q]
    refine lv_tableIn (tgt := 50) hx hb dX11_count_3 (by decide) (by decide) rfl (by decide) ?_
    exact wX11_count_s50 C n st res (it hf q) H locs ls (lv_sub hl [1] rfl) hP hS
  replace hf := ie hf q
  have q2 := q
  clear q
  by_cases q : v1 = 3
  · rw [q]
    refine lv_tableIn (tgt := 55) hx hb dX11_count_3 (by decide) (by decide) rfl (by decide) ?_
    exact wX11_count_s55 C n st res (it hf q) H locs ls (lv_sub hl [1] rfl) hP hS
  replace hf := ie hf q
  have q3 := q
  clear q
  by_cases q : v1 = 4
  · rw [q]
    refine lv_tableIn (tgt := 60) hx hb dX11_count_3 (by decide) (by decide) rfl (by decide) ?_
    exact wX11_count_s60 C n st res (it hf q) H locs ls (lv_sub hl [1] rfl) hP hS
  replace hf := ie hf q
  have q4 := q
  clear q
  by_cases q : v1 = 5
  · rw [q]
    refine lv_tableIn (tgt := 65) hx hb dX11_count_3 (by decide) (by decide) rfl (by decide) ?_
    exact wX11_count_s65 C n 0 st res (it hf q) H locs ls (lv_sub hl [1, 0] rfl) hP hS
  replace hf := ie hf q
  have q5 := q
  clear q
  have qo : v1.toInt < 0 ∨ 5 < v1.toInt := by
    refine Classical.byContradiction (fun w => ?_)
    have w : v1.toInt = 0 ∨ v1.toInt = 1 ∨ v1.toInt = 2 ∨ v1.toInt = 3 ∨ v1.toInt = 4 ∨ v1.toInt = 5 := by omega
    rcases w with w | w | w | w | w | w
    · exact q0 (Int32.toInt_inj.mp (w.trans (by decide)))
    · exact q1 (Int32.toInt_inj.mp (w.trans (by decide)))
    · exact q2 (Int32.toInt_inj.mp (w.trans (by decide)))
    · exact q3 (Int32.toInt_inj.mp (w.trans (by decide)))
    · exact q4 (Int32.toInt_inj.mp (w.trans (by decide)))
    · exact q5 (Int32.toInt_inj.mp (w.trans (by decide)))
  refine lv_tableOut (tgt := 101) hx hb dX11_count_3 qo (by decide) ?_
  exact wX11_count_s101 C n st res hf H locs ls (lv_sub hl [] rfl) hP hS
def fX11_count (n : Nat)  (a1 : Int32) (st : St) : Option (Int32 × St) := fX11_count_s0 n a1 st
theorem okX11_count : okY yX11_count RX11 1 := by unfold okY; decide +kernel
end
set_option maxRecDepth 100000 in
theorem kX11_count (l : Launch) (D : va_G) (G : G3) (ad : Nat → Nat) (had : Adr ad) (n : Nat)   (a1 : Int32) (st : St) (res : (Int32 × St)) (hf : fX11_count n  a1 st = some res) {sz : Nat} : CtI l yX11_count (wsU yX11_count cX11_count 4 (some .int)) (rmK 0) D G ad sz [.ref (ad 130), .int a1] st res := by
  refine Met.ofW (cc := cX11_count) (maxL := 4) (ret := (some .int)) (by decide) rfl ?_
  intro p e s m args below meth c s₁ B hml hv
  obtain ⟨rfl, hsz, hP, hK, hSt⟩ := hv
  have hts := atoms_spec (ws := wsU yX11_count cX11_count 4 (some .int)) B.pre
  have C : Cx p s m _ meth c cX11_count 4 wsL_law RX11 (some .int) D G ad := ⟨B.exec, B.bytes, hml, findClass_of_methodNamed B.named, fun w h => hts w (List.mem_cons_of_mem _ h), B.returns, B.notSynchronized, hK, had, hSt⟩
  subst hsz
  have hl := lv_entry ([.ref (ad 130), .int a1]) (n := 4) (Nat.le_of_ble_eq_true rfl)
  rw [lg_entry_eq]
  generalize (lg_sl ([.ref (ad 130), .int a1]) ++ List.replicate (4 - (lg_sl ([.ref (ad 130), .int a1])).length) Slot.unset).toArray = ls at hl ⊢
  exact wX11_count_s0 C n  a1   st res hf s.heap [] ls (lv_sub hl [0, 1] rfl) hP va_S.rf
