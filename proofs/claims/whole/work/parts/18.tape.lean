theorem wm_1_23 : Cond.initialized RX9 ∈ wsL_law := in_r1 _ (mm_at 23 rfl)
theorem wm_4_9 : Cond.fieldLink RX9 9 "OrderEcho$Tape" "bytes" "[I" ∈ wsL_law := in_r4 _ (mm_at 9 rfl)
theorem wm_4_10 : Cond.fieldLink RX9 15 "OrderEcho$Tape" "code" "[I" ∈ wsL_law := in_r4 _ (mm_at 10 rfl)
theorem wm_25_5 : Cond.fieldLink RX9 18 "OrderEcho$Tape" "length" "I" ∈ wsL_law := in_r25 _ (mm_at 5 rfl)
theorem wm_26_1 : Cond.fieldLink RX9 22 "OrderEcho$Tape" "at" "I" ∈ wsL_law := in_r26 _ (mm_at 1 rfl)
theorem wm_26_2 : Cond.fieldLink RX9 25 "OrderEcho$Tape" "size" "I" ∈ wsL_law := in_r26 _ (mm_at 2 rfl)
theorem wm_26_3 : Cond.methodLink RX9 28 yX9_readSum ∈ wsL_law := in_r26 _ (mm_at 3 rfl)
theorem wm_26_4 : Cond.instanceMethod yX9_readSum ∈ wsL_law := in_r26 _ (mm_at 4 rfl)
theorem wm_26_5 : Cond.selects RX9 yX9_readSum yX9_readSum ∈ wsL_law := in_r26 _ (mm_at 5 rfl)
theorem wm_26_6 : Cond.code yX9_readSum cX9_readSum 5 (some .boolean) ∈ wsL_law := in_r26 _ (mm_at 6 rfl)
theorem wm_26_7 : Cond.methodLink RX9 36 yX9_readProduct ∈ wsL_law := in_r26 _ (mm_at 7 rfl)
theorem wm_26_8 : Cond.instanceMethod yX9_readProduct ∈ wsL_law := in_r26 _ (mm_at 8 rfl)
theorem wm_26_9 : Cond.selects RX9 yX9_readProduct yX9_readProduct ∈ wsL_law := in_r26 _ (mm_at 9 rfl)
theorem wm_26_10 : Cond.methodLink RX9 32 yX9_isNext ∈ wsL_law := in_r26 _ (mm_at 10 rfl)
theorem wm_26_11 : Cond.instanceMethod yX9_isNext ∈ wsL_law := in_r26 _ (mm_at 11 rfl)
theorem wm_26_12 : Cond.selects RX9 yX9_isNext yX9_isNext ∈ wsL_law := in_r26 _ (mm_at 12 rfl)
theorem wm_26_13 : Cond.code yX9_isNext cX9_isNext 2 (some .boolean) ∈ wsL_law := in_r26 _ (mm_at 13 rfl)
theorem wm_26_14 : Cond.methodLink RX9 41 yX9_emit ∈ wsL_law := in_r26 _ (mm_at 14 rfl)
theorem wm_26_15 : Cond.instanceMethod yX9_emit ∈ wsL_law := in_r26 _ (mm_at 15 rfl)
theorem wm_26_16 : Cond.selects RX9 yX9_emit yX9_emit ∈ wsL_law := in_r26 _ (mm_at 16 rfl)
theorem wm_26_17 : Cond.code yX9_emit cX9_emit 2 none ∈ wsL_law := in_r26 _ (mm_at 17 rfl)
theorem wm_26_18 : Cond.code yX9_readAtom cX9_readAtom 4 (some .boolean) ∈ wsL_law := in_r26 _ (mm_at 18 rfl)
theorem wm_26_19 : Cond.methodLink RX9 48 yX9_isDigit ∈ wsL_law := in_r26 _ (mm_at 19 rfl)
theorem wm_26_20 : Cond.instanceMethod yX9_isDigit ∈ wsL_law := in_r26 _ (mm_at 20 rfl)
theorem wm_26_21 : Cond.selects RX9 yX9_isDigit yX9_isDigit ∈ wsL_law := in_r26 _ (mm_at 21 rfl)
theorem wm_26_22 : Cond.code yX9_isDigit cX9_isDigit 1 (some .boolean) ∈ wsL_law := in_r26 _ (mm_at 22 rfl)
theorem wm_26_23 : Cond.methodLink RX9 52 yX9_readNumber ∈ wsL_law := in_r26 _ (mm_at 23 rfl)
theorem wm_27_0 : Cond.instanceMethod yX9_readNumber ∈ wsL_law := in_r27 _ (mm_at 0 rfl)
theorem wm_27_1 : Cond.selects RX9 yX9_readNumber yX9_readNumber ∈ wsL_law := in_r27 _ (mm_at 1 rfl)
theorem wm_27_2 : Cond.code yX9_readNumber cX9_readNumber 3 none ∈ wsL_law := in_r27 _ (mm_at 2 rfl)
theorem wm_27_3 : Cond.methodLink RX9 55 yX9_openOne ∈ wsL_law := in_r27 _ (mm_at 3 rfl)
theorem wm_27_4 : Cond.instanceMethod yX9_openOne ∈ wsL_law := in_r27 _ (mm_at 4 rfl)
theorem wm_27_5 : Cond.selects RX9 yX9_openOne yX9_openOne ∈ wsL_law := in_r27 _ (mm_at 5 rfl)
theorem wm_27_6 : Cond.code yX9_openOne cX9_openOne 2 (some .boolean) ∈ wsL_law := in_r27 _ (mm_at 6 rfl)
theorem wm_27_7 : Cond.methodLink RX9 58 yX9_take ∈ wsL_law := in_r27 _ (mm_at 7 rfl)
theorem wm_27_8 : Cond.instanceMethod yX9_take ∈ wsL_law := in_r27 _ (mm_at 8 rfl)
theorem wm_27_9 : Cond.selects RX9 yX9_take yX9_take ∈ wsL_law := in_r27 _ (mm_at 9 rfl)
theorem wm_27_10 : Cond.code yX9_take cX9_take 3 (some .boolean) ∈ wsL_law := in_r27 _ (mm_at 10 rfl)
theorem wm_27_11 : Cond.methodLink RX9 61 yX9_readWord ∈ wsL_law := in_r27 _ (mm_at 11 rfl)
theorem wm_27_12 : Cond.instanceMethod yX9_readWord ∈ wsL_law := in_r27 _ (mm_at 12 rfl)
theorem wm_27_13 : Cond.selects RX9 yX9_readWord yX9_readWord ∈ wsL_law := in_r27 _ (mm_at 13 rfl)
theorem wm_27_14 : Cond.code yX9_readWord cX9_readWord 7 (some .int) ∈ wsL_law := in_r27 _ (mm_at 14 rfl)
theorem wm_27_15 : Cond.methodLink RX9 75 Lib.Math.max.name ∈ wsL_law := in_r27 _ (mm_at 15 rfl)
theorem wm_27_16 : Cond.methodLink RX9 67 yJ0_length_8abf5 ∈ wsL_law := in_r27 _ (mm_at 16 rfl)
theorem wm_27_17 : Cond.instanceMethod yJ0_length_8abf5 ∈ wsL_law := in_r27 _ (mm_at 17 rfl)
theorem wm_27_18 : Cond.selects RJ0 yJ0_length_8abf5 yJ0_length_8abf5 ∈ wsL_law := in_r27 _ (mm_at 18 rfl)
theorem wm_27_20 : Cond.code yJ0_length_8abf5 cJ0_length_8abf5 1 (some .int) ∈ wsL_law := in_r27 _ (mm_at 20 rfl)
theorem wm_28_4 : Cond.methodLink RX9 71 yJ0_charAt_5068e ∈ wsL_law := in_r28 _ (mm_at 4 rfl)
theorem wm_28_5 : Cond.instanceMethod yJ0_charAt_5068e ∈ wsL_law := in_r28 _ (mm_at 5 rfl)
theorem wm_28_6 : Cond.selects RJ0 yJ0_charAt_5068e yJ0_charAt_5068e ∈ wsL_law := in_r28 _ (mm_at 6 rfl)
theorem wm_28_7 : Cond.code yJ0_charAt_5068e cJ0_charAt_5068e 2 (some .char) ∈ wsL_law := in_r28 _ (mm_at 7 rfl)
theorem wm_29_17 : Cond.code yX9_readProduct cX9_readProduct 5 (some .boolean) ∈ wsL_law := in_r29 _ (mm_at 17 rfl)
theorem wm_29_18 : Cond.methodLink RX9 45 yX9_readAtom ∈ wsL_law := in_r29 _ (mm_at 18 rfl)
theorem wm_29_19 : Cond.instanceMethod yX9_readAtom ∈ wsL_law := in_r29 _ (mm_at 19 rfl)
theorem wm_29_20 : Cond.selects RX9 yX9_readAtom yX9_readAtom ∈ wsL_law := in_r29 _ (mm_at 20 rfl)
section
variable {p : Program} {l : Launch} {e : Env} {s : State} {m : MethodId} {args : Array Value} {below : List Frame} {meth : Method} {c : Code} {D : va_G} {G : G3} {ad : Nat → Nat}
def fX9_append_s32 (n : Nat)    (st : St) : Option (Unit × St) := some ((), st)
set_option maxHeartbeats 4000000 in
set_option maxRecDepth 100000 in
theorem wX9_append_s32 (C : Cx p s m args meth c cX9_append 2 wsL_law RX9 none D G ad) (n : Nat)      (st : St) (res : (Unit × St))  (hf : fX9_append_s32 n    st = some res) : At p l e (rmK 0) s m args below meth c D G ad (MQV D G ad below args s res) 2 st [] 32 [] := by
  obtain ⟨hx, hb, hml, hown, hts, hr, hlk, hK, had, hSt⟩ := id C
  intro H locs ls hl hP hS
  unfold fX9_append_s32 at hf
  exact g_vret hx hb hr hlk hP hS dX9_append_32 hf
def fX9_append_s22 (n : Nat)    (st : St) : Option (Unit × St) := fX9_append_s32 n (setI st 15 2 ((st.1 15 2) + 1))
set_option maxHeartbeats 4000000 in
set_option maxRecDepth 100000 in
theorem wX9_append_s22 (C : Cx p s m args meth c cX9_append 2 wsL_law RX9 none D G ad) (n : Nat)      (st : St) (res : (Unit × St))  (hf : fX9_append_s22 n    st = some res) : At p l e (rmK 0) s m args below meth c D G ad (MQV D G ad below args s res) 2 st [(0, .ref (ad 15))] 22 [] := by
  obtain ⟨hx, hb, hml, hown, hts, hr, hlk, hK, had, hSt⟩ := id C
  intro H locs ls hl hP hS
  unfold fX9_append_s22 at hf
  refine lv_aload_n hx hb dX9_append_22 rfl (lv_at hl 0 rfl) ?_
  refine lv_dup hx hb dX9_append_23 rfl ?_
  refine g_getI hx hb hts inlX9 hown hK hP 15 ct_15 rfl 2 (by decide) (hts _ wm_25_5) rfl dX9_append_24 ?_
  refine lv_iconst (v := 1) hx hb dX9_append_27 (by decide) ?_
  refine lv_iadd hx hb dX9_append_28 ?_
  refine g_putI hx hb hts inlX9 tyX9_ok nmX9 hown hK had hP hS 15 ct_15 rfl 2 (by decide) (hts _ wm_25_5) rfl rfl rfl rfl rfl dX9_append_29 (fun H locs hP hS => ?_)
  exact wX9_append_s32 C n (setI st 15 2 ((st.1 15 2) + 1)) res hf H locs ls (lv_sub hl [] rfl) hP hS
def fX9_append_s12 (n : Nat)   (v1 : Int32) (st : St) : Option (Unit × St) := if inb (st.1 15 2) 120 = true then (fX9_append_s22 n (setI st 16 (st.1 15 2).toNatClampNeg v1)) else none
set_option maxHeartbeats 4000000 in
set_option maxRecDepth 100000 in
theorem wX9_append_s12 (C : Cx p s m args meth c cX9_append 2 wsL_law RX9 none D G ad) (n : Nat)   (v1 : Int32)   (st : St) (res : (Unit × St))  (hf : fX9_append_s12 n   v1 st = some res) : At p l e (rmK 0) s m args below meth c D G ad (MQV D G ad below args s res) 2 st [(0, .ref (ad 15)), (1, .int v1)] 12 [] := by
  obtain ⟨hx, hb, hml, hown, hts, hr, hlk, hK, had, hSt⟩ := id C
  intro H locs ls hl hP hS
  unfold fX9_append_s12 at hf
  refine lv_aload_n hx hb dX9_append_12 rfl (lv_at hl 0 rfl) ?_
  refine g_getR hx hb hts inlX9 hown hK hP 15 ct_15 rfl 0 (by decide) (hts _ wm_4_9) rfl dX9_append_13 ?_
  refine lv_aload_n hx hb dX9_append_16 rfl (lv_at hl 0 rfl) ?_
  refine g_getI hx hb hts inlX9 hown hK hP 15 ct_15 rfl 2 (by decide) (hts _ wm_25_5) rfl dX9_append_17 ?_
  refine lv_iload_n hx hb dX9_append_20 rfl (lv_at hl 1 rfl) ?_
  obtain ⟨g1, hf⟩ := gd hf
  refine g_iast hx hb hK had hP hS 16 ct_16 g1 dX9_append_21 (fun H locs hP hS => ?_)
  exact wX9_append_s22 C n (setI st 16 (st.1 15 2).toNatClampNeg v1) res hf H locs ls (lv_sub hl [0] rfl) hP hS
def fX9_append_s0 (n : Nat)   (v1 : Int32) (st : St) : Option (Unit × St) := if 120 ≤ (st.1 15 2) then fX9_append_s32 n st else fX9_append_s12 n v1 st
set_option maxHeartbeats 4000000 in
set_option maxRecDepth 100000 in
theorem wX9_append_s0 (C : Cx p s m args meth c cX9_append 2 wsL_law RX9 none D G ad) (n : Nat)   (v1 : Int32)   (st : St) (res : (Unit × St))  (hf : fX9_append_s0 n   v1 st = some res) : At p l e (rmK 0) s m args below meth c D G ad (MQV D G ad below args s res) 2 st [(0, .ref (ad 15)), (1, .int v1)] 0 [] := by
  obtain ⟨hx, hb, hml, hown, hts, hr, hlk, hK, had, hSt⟩ := id C
  intro H locs ls hl hP hS
  unfold fX9_append_s0 at hf
  refine lv_aload_n hx hb dX9_append_0 rfl (lv_at hl 0 rfl) ?_
  refine g_getI hx hb hts inlX9 hown hK hP 15 ct_15 rfl 2 (by decide) (hts _ wm_25_5) rfl dX9_append_1 ?_
  refine lv_aload_n hx hb dX9_append_4 rfl (lv_at hl 0 rfl) ?_
  refine g_getR hx hb hts inlX9 hown hK hP 15 ct_15 rfl 0 (by decide) (hts _ wm_4_9) rfl dX9_append_5 ?_
  refine g_alen hx hb hK hP 16 ct_16 dX9_append_8 ?_
  refine lv_topc (v := 120) (by decide) ?_
  refine lv_icmp_ge (tgt := 32) hx hb dX9_append_9 (by decide) (fun q => ?_) (fun q => ?_)
  · exact wX9_append_s32 C n st res (it hf q) H locs ls (lv_sub hl [] rfl) hP hS
  · exact wX9_append_s12 C n v1 st res (ie hf q) H locs ls (lv_sub hl [0, 1] rfl) hP hS
def fX9_append (n : Nat)  (a1 : Int32) (st : St) : Option (Unit × St) := fX9_append_s0 n a1 st
theorem okX9_append : okY yX9_append RX9 1 := by unfold okY; decide +kernel
end
set_option maxRecDepth 100000 in
theorem kX9_append (l : Launch) (D : va_G) (G : G3) (ad : Nat → Nat) (had : Adr ad) (n : Nat)   (a1 : Int32) (st : St) (res : (Unit × St)) (hf : fX9_append n  a1 st = some res) {sz : Nat} : CtV l yX9_append (wsU yX9_append cX9_append 2 none) (rmK 0) D G ad sz [.ref (ad 15), .int a1] st res := by
  refine Met.ofW (cc := cX9_append) (maxL := 2) (ret := none) (by decide) rfl ?_
  intro p e s m args below meth c s₁ B hml hv
  obtain ⟨rfl, hsz, hP, hK, hSt⟩ := hv
  have hts := atoms_spec (ws := wsU yX9_append cX9_append 2 none) B.pre
  have C : Cx p s m _ meth c cX9_append 2 wsL_law RX9 none D G ad := ⟨B.exec, B.bytes, hml, findClass_of_methodNamed B.named, fun w h => hts w (List.mem_cons_of_mem _ h), B.returns, B.notSynchronized, hK, had, hSt⟩
  subst hsz
  have hl := lv_entry ([.ref (ad 15), .int a1]) (n := 2) (Nat.le_of_ble_eq_true rfl)
  rw [lg_entry_eq]
  generalize (lg_sl ([.ref (ad 15), .int a1]) ++ List.replicate (2 - (lg_sl ([.ref (ad 15), .int a1])).length) Slot.unset).toArray = ls at hl ⊢
  exact wX9_append_s0 C n  a1   st res hf s.heap [] ls (lv_sub hl [0, 1] rfl) hP va_S.rf
section
variable {p : Program} {l : Launch} {e : Env} {s : State} {m : MethodId} {args : Array Value} {below : List Frame} {meth : Method} {c : Code} {D : va_G} {G : G3} {ad : Nat → Nat}
def fX9_emit_s32 (n : Nat)    (st : St) : Option (Unit × St) := some ((), st)
set_option maxHeartbeats 4000000 in
set_option maxRecDepth 100000 in
theorem wX9_emit_s32 (C : Cx p s m args meth c cX9_emit 2 wsL_law RX9 none D G ad) (n : Nat)      (st : St) (res : (Unit × St))  (hf : fX9_emit_s32 n    st = some res) : At p l e (rmK 0) s m args below meth c D G ad (MQV D G ad below args s res) 2 st [] 32 [] := by
  obtain ⟨hx, hb, hml, hown, hts, hr, hlk, hK, had, hSt⟩ := id C
  intro H locs ls hl hP hS
  unfold fX9_emit_s32 at hf
  exact g_vret hx hb hr hlk hP hS dX9_emit_32 hf
def fX9_emit_s22 (n : Nat)    (st : St) : Option (Unit × St) := fX9_emit_s32 n (setI st 15 4 ((st.1 15 4) + 1))
set_option maxHeartbeats 4000000 in
set_option maxRecDepth 100000 in
theorem wX9_emit_s22 (C : Cx p s m args meth c cX9_emit 2 wsL_law RX9 none D G ad) (n : Nat)      (st : St) (res : (Unit × St))  (hf : fX9_emit_s22 n    st = some res) : At p l e (rmK 0) s m args below meth c D G ad (MQV D G ad below args s res) 2 st [(0, .ref (ad 15))] 22 [] := by
  obtain ⟨hx, hb, hml, hown, hts, hr, hlk, hK, had, hSt⟩ := id C
  intro H locs ls hl hP hS
  unfold fX9_emit_s22 at hf
  refine lv_aload_n hx hb dX9_emit_22 rfl (lv_at hl 0 rfl) ?_
  refine lv_dup hx hb dX9_emit_23 rfl ?_
  refine g_getI hx hb hts inlX9 hown hK hP 15 ct_15 rfl 4 (by decide) (hts _ wm_26_2) rfl dX9_emit_24 ?_
  refine lv_iconst (v := 1) hx hb dX9_emit_27 (by decide) ?_
  refine lv_iadd hx hb dX9_emit_28 ?_
  refine g_putI hx hb hts inlX9 tyX9_ok nmX9 hown hK had hP hS 15 ct_15 rfl 4 (by decide) (hts _ wm_26_2) rfl rfl rfl rfl rfl dX9_emit_29 (fun H locs hP hS => ?_)
  exact wX9_emit_s32 C n (setI st 15 4 ((st.1 15 4) + 1)) res hf H locs ls (lv_sub hl [] rfl) hP hS
def fX9_emit_s12 (n : Nat)   (v1 : Int32) (st : St) : Option (Unit × St) := if inb (st.1 15 4) 120 = true then (fX9_emit_s22 n (setI st 17 (st.1 15 4).toNatClampNeg v1)) else none
set_option maxHeartbeats 4000000 in
set_option maxRecDepth 100000 in
theorem wX9_emit_s12 (C : Cx p s m args meth c cX9_emit 2 wsL_law RX9 none D G ad) (n : Nat)   (v1 : Int32)   (st : St) (res : (Unit × St))  (hf : fX9_emit_s12 n   v1 st = some res) : At p l e (rmK 0) s m args below meth c D G ad (MQV D G ad below args s res) 2 st [(0, .ref (ad 15)), (1, .int v1)] 12 [] := by
  obtain ⟨hx, hb, hml, hown, hts, hr, hlk, hK, had, hSt⟩ := id C
  intro H locs ls hl hP hS
  unfold fX9_emit_s12 at hf
  refine lv_aload_n hx hb dX9_emit_12 rfl (lv_at hl 0 rfl) ?_
  refine g_getR hx hb hts inlX9 hown hK hP 15 ct_15 rfl 1 (by decide) (hts _ wm_4_10) rfl dX9_emit_13 ?_
  refine lv_aload_n hx hb dX9_emit_16 rfl (lv_at hl 0 rfl) ?_
  refine g_getI hx hb hts inlX9 hown hK hP 15 ct_15 rfl 4 (by decide) (hts _ wm_26_2) rfl dX9_emit_17 ?_
  refine lv_iload_n hx hb dX9_emit_20 rfl (lv_at hl 1 rfl) ?_
  obtain ⟨g1, hf⟩ := gd hf
  refine g_iast hx hb hK had hP hS 17 ct_17 g1 dX9_emit_21 (fun H locs hP hS => ?_)
  exact wX9_emit_s22 C n (setI st 17 (st.1 15 4).toNatClampNeg v1) res hf H locs ls (lv_sub hl [0] rfl) hP hS
def fX9_emit_s0 (n : Nat)   (v1 : Int32) (st : St) : Option (Unit × St) := if 120 ≤ (st.1 15 4) then fX9_emit_s32 n st else fX9_emit_s12 n v1 st
set_option maxHeartbeats 4000000 in
set_option maxRecDepth 100000 in
theorem wX9_emit_s0 (C : Cx p s m args meth c cX9_emit 2 wsL_law RX9 none D G ad) (n : Nat)   (v1 : Int32)   (st : St) (res : (Unit × St))  (hf : fX9_emit_s0 n   v1 st = some res) : At p l e (rmK 0) s m args below meth c D G ad (MQV D G ad below args s res) 2 st [(0, .ref (ad 15)), (1, .int v1)] 0 [] := by
  obtain ⟨hx, hb, hml, hown, hts, hr, hlk, hK, had, hSt⟩ := id C
  intro H locs ls hl hP hS
  unfold fX9_emit_s0 at hf
  refine lv_aload_n hx hb dX9_emit_0 rfl (lv_at hl 0 rfl) ?_
  refine g_getI hx hb hts inlX9 hown hK hP 15 ct_15 rfl 4 (by decide) (hts _ wm_26_2) rfl dX9_emit_1 ?_
  refine lv_aload_n hx hb dX9_emit_4 rfl (lv_at hl 0 rfl) ?_
  refine g_getR hx hb hts inlX9 hown hK hP 15 ct_15 rfl 1 (by decide) (hts _ wm_4_10) rfl dX9_emit_5 ?_
  refine g_alen hx hb hK hP 17 ct_17 dX9_emit_8 ?_
  refine lv_topc (v := 120) (by decide) ?_
  refine lv_icmp_ge (tgt := 32) hx hb dX9_emit_9 (by decide) (fun q => ?_) (fun q => ?_)
  · exact wX9_emit_s32 C n st res (it hf q) H locs ls (lv_sub hl [] rfl) hP hS
  · exact wX9_emit_s12 C n v1 st res (ie hf q) H locs ls (lv_sub hl [0, 1] rfl) hP hS
def fX9_emit (n : Nat)  (a1 : Int32) (st : St) : Option (Unit × St) := fX9_emit_s0 n a1 st
theorem okX9_emit : okY yX9_emit RX9 1 := by unfold okY; decide +kernel
end
set_option maxRecDepth 100000 in
theorem kX9_emit (l : Launch) (D : va_G) (G : G3) (ad : Nat → Nat) (had : Adr ad) (n : Nat)   (a1 : Int32) (st : St) (res : (Unit × St)) (hf : fX9_emit n  a1 st = some res) {sz : Nat} : CtV l yX9_emit (wsU yX9_emit cX9_emit 2 none) (rmK 0) D G ad sz [.ref (ad 15), .int a1] st res := by
  refine Met.ofW (cc := cX9_emit) (maxL := 2) (ret := none) (by decide) rfl ?_
  intro p e s m args below meth c s₁ B hml hv
  obtain ⟨rfl, hsz, hP, hK, hSt⟩ := hv
  have hts := atoms_spec (ws := wsU yX9_emit cX9_emit 2 none) B.pre
  have C : Cx p s m _ meth c cX9_emit 2 wsL_law RX9 none D G ad := ⟨B.exec, B.bytes, hml, findClass_of_methodNamed B.named, fun w h => hts w (List.mem_cons_of_mem _ h), B.returns, B.notSynchronized, hK, had, hSt⟩
  subst hsz
  have hl := lv_entry ([.ref (ad 15), .int a1]) (n := 2) (Nat.le_of_ble_eq_true rfl)
  rw [lg_entry_eq]
  generalize (lg_sl ([.ref (ad 15), .int a1]) ++ List.replicate (2 - (lg_sl ([.ref (ad 15), .int a1])).length) Slot.unset).toArray = ls at hl ⊢
  exact wX9_emit_s0 C n  a1   st res hf s.heap [] ls (lv_sub hl [0, 1] rfl) hP va_S.rf
section
variable {p : Program} {l : Launch} {e : Env} {s : State} {m : MethodId} {args : Array Value} {below : List Frame} {meth : Method} {c : Code} {D : va_G} {G : G3} {ad : Nat → Nat}
def fX9_isNext_s29 (n : Nat)   (k0 : Int32) (st : St) : Option (Int32 × St) := if zb k0 = true then (some (k0, st)) else none
set_option maxHeartbeats 4000000 in
set_option maxRecDepth 100000 in
theorem wX9_isNext_s29 (C : Cx p s m args meth c cX9_isNext 2 wsL_law RX9 (some .boolean) D G ad) (n : Nat)   (k0 : Int32)   (st : St) (res : (Int32 × St))  (hf : fX9_isNext_s29 n   k0 st = some res) : At p l e (rmK 0) s m args below meth c D G ad (MQI D G ad below args s res) 2 st [] 29 [.int k0] := by
  obtain ⟨hx, hb, hml, hown, hts, hr, hlk, hK, had, hSt⟩ := id C
  intro H locs ls hl hP hS
  unfold fX9_isNext_s29 at hf
  obtain ⟨gz, hf⟩ := gd hf
  exact g_zret hx hb hr hlk hP hS (zb_of gz) dX9_isNext_29 hf
def fX9_isNext_s28 (n : Nat)    (st : St) : Option (Int32 × St) := fX9_isNext_s29 n 0 st
set_option maxHeartbeats 4000000 in
set_option maxRecDepth 100000 in
theorem wX9_isNext_s28 (C : Cx p s m args meth c cX9_isNext 2 wsL_law RX9 (some .boolean) D G ad) (n : Nat)      (st : St) (res : (Int32 × St))  (hf : fX9_isNext_s28 n    st = some res) : At p l e (rmK 0) s m args below meth c D G ad (MQI D G ad below args s res) 2 st [] 28 [] := by
  obtain ⟨hx, hb, hml, hown, hts, hr, hlk, hK, had, hSt⟩ := id C
  intro H locs ls hl hP hS
  unfold fX9_isNext_s28 at hf
  refine lv_iconst (v := 0) hx hb dX9_isNext_28 (by decide) ?_
  exact wX9_isNext_s29 C n 0 st res hf H locs ls (lv_sub hl [] rfl) hP hS
def fX9_isNext_s24 (n : Nat)    (st : St) : Option (Int32 × St) := fX9_isNext_s29 n 1 st
set_option maxHeartbeats 4000000 in
set_option maxRecDepth 100000 in
theorem wX9_isNext_s24 (C : Cx p s m args meth c cX9_isNext 2 wsL_law RX9 (some .boolean) D G ad) (n : Nat)      (st : St) (res : (Int32 × St))  (hf : fX9_isNext_s24 n    st = some res) : At p l e (rmK 0) s m args below meth c D G ad (MQI D G ad below args s res) 2 st [] 24 [] := by
  obtain ⟨hx, hb, hml, hown, hts, hr, hlk, hK, had, hSt⟩ := id C
  intro H locs ls hl hP hS
  unfold fX9_isNext_s24 at hf
  refine lv_iconst (v := 1) hx hb dX9_isNext_24 (by decide) ?_
  refine lv_goto (tgt := 29) hx hb dX9_isNext_25 (by decide) ?_
  exact wX9_isNext_s29 C n 1 st res hf H locs ls (lv_sub hl [] rfl) hP hS
def fX9_isNext_s11 (n : Nat)   (v1 : Int32) (st : St) : Option (Int32 × St) := if inb (st.1 15 3) 120 = true then (if (st.1 16 (st.1 15 3).toNatClampNeg) = v1 then fX9_isNext_s24 n st else fX9_isNext_s28 n st) else none
set_option maxHeartbeats 4000000 in
set_option maxRecDepth 100000 in
theorem wX9_isNext_s11 (C : Cx p s m args meth c cX9_isNext 2 wsL_law RX9 (some .boolean) D G ad) (n : Nat)   (v1 : Int32)   (st : St) (res : (Int32 × St))  (hf : fX9_isNext_s11 n   v1 st = some res) : At p l e (rmK 0) s m args below meth c D G ad (MQI D G ad below args s res) 2 st [(0, .ref (ad 15)), (1, .int v1)] 11 [] := by
  obtain ⟨hx, hb, hml, hown, hts, hr, hlk, hK, had, hSt⟩ := id C
  intro H locs ls hl hP hS
  unfold fX9_isNext_s11 at hf
  refine lv_aload_n hx hb dX9_isNext_11 rfl (lv_at hl 0 rfl) ?_
  refine g_getR hx hb hts inlX9 hown hK hP 15 ct_15 rfl 0 (by decide) (hts _ wm_4_9) rfl dX9_isNext_12 ?_
  refine lv_aload_n hx hb dX9_isNext_15 rfl (lv_at hl 0 rfl) ?_
  refine g_getI hx hb hts inlX9 hown hK hP 15 ct_15 rfl 3 (by decide) (hts _ wm_26_1) rfl dX9_isNext_16 ?_
  obtain ⟨g1, hf⟩ := gd hf
  refine g_iald hx hb hK hP 16 ct_16 g1 dX9_isNext_19 ?_
  refine lv_iload_n hx hb dX9_isNext_20 rfl (lv_at hl 1 rfl) ?_
  refine lv_icmp_ne (tgt := 28) hx hb dX9_isNext_21 (by decide) (fun q => ?_) (fun q => ?_)
  · exact wX9_isNext_s28 C n st res (ie hf q) H locs ls (lv_sub hl [] rfl) hP hS
  · exact wX9_isNext_s24 C n st res (it hf q) H locs ls (lv_sub hl [] rfl) hP hS
def fX9_isNext_s0 (n : Nat)   (v1 : Int32) (st : St) : Option (Int32 × St) := if (st.1 15 2) ≤ (st.1 15 3) then fX9_isNext_s28 n st else fX9_isNext_s11 n v1 st
set_option maxHeartbeats 4000000 in
set_option maxRecDepth 100000 in
theorem wX9_isNext_s0 (C : Cx p s m args meth c cX9_isNext 2 wsL_law RX9 (some .boolean) D G ad) (n : Nat)   (v1 : Int32)   (st : St) (res : (Int32 × St))  (hf : fX9_isNext_s0 n   v1 st = some res) : At p l e (rmK 0) s m args below meth c D G ad (MQI D G ad below args s res) 2 st [(0, .ref (ad 15)), (1, .int v1)] 0 [] := by
  obtain ⟨hx, hb, hml, hown, hts, hr, hlk, hK, had, hSt⟩ := id C
  intro H locs ls hl hP hS
  unfold fX9_isNext_s0 at hf
  refine lv_aload_n hx hb dX9_isNext_0 rfl (lv_at hl 0 rfl) ?_
  refine g_getI hx hb hts inlX9 hown hK hP 15 ct_15 rfl 3 (by decide) (hts _ wm_26_1) rfl dX9_isNext_1 ?_
  refine lv_aload_n hx hb dX9_isNext_4 rfl (lv_at hl 0 rfl) ?_
  refine g_getI hx hb hts inlX9 hown hK hP 15 ct_15 rfl 2 (by decide) (hts _ wm_25_5) rfl dX9_isNext_5 ?_
  refine lv_icmp_ge (tgt := 28) hx hb dX9_isNext_8 (by decide) (fun q => ?_) (fun q => ?_)
  · exact wX9_isNext_s28 C n st res (it hf q) H locs ls (lv_sub hl [] rfl) hP hS
  · exact wX9_isNext_s11 C n v1 st res (ie hf q) H locs ls (lv_sub hl [0, 1] rfl) hP hS
def fX9_isNext (n : Nat)  (a1 : Int32) (st : St) : Option (Int32 × St) := fX9_isNext_s0 n a1 st
theorem okX9_isNext : okY yX9_isNext RX9 1 := by unfold okY; decide +kernel
end
set_option maxRecDepth 100000 in
theorem kX9_isNext (l : Launch) (D : va_G) (G : G3) (ad : Nat → Nat) (had : Adr ad) (n : Nat)   (a1 : Int32) (st : St) (res : (Int32 × St)) (hf : fX9_isNext n  a1 st = some res) {sz : Nat} : CtI l yX9_isNext (wsU yX9_isNext cX9_isNext 2 (some .boolean)) (rmK 0) D G ad sz [.ref (ad 15), .int a1] st res := by
  refine Met.ofW (cc := cX9_isNext) (maxL := 2) (ret := (some .boolean)) (by decide) rfl ?_
  intro p e s m args below meth c s₁ B hml hv
  obtain ⟨rfl, hsz, hP, hK, hSt⟩ := hv
  have hts := atoms_spec (ws := wsU yX9_isNext cX9_isNext 2 (some .boolean)) B.pre
  have C : Cx p s m _ meth c cX9_isNext 2 wsL_law RX9 (some .boolean) D G ad := ⟨B.exec, B.bytes, hml, findClass_of_methodNamed B.named, fun w h => hts w (List.mem_cons_of_mem _ h), B.returns, B.notSynchronized, hK, had, hSt⟩
  subst hsz
  have hl := lv_entry ([.ref (ad 15), .int a1]) (n := 2) (Nat.le_of_ble_eq_true rfl)
  rw [lg_entry_eq]
  generalize (lg_sl ([.ref (ad 15), .int a1]) ++ List.replicate (2 - (lg_sl ([.ref (ad 15), .int a1])).length) Slot.unset).toArray = ls at hl ⊢
  exact wX9_isNext_s0 C n  a1   st res hf s.heap [] ls (lv_sub hl [0, 1] rfl) hP va_S.rf
section
variable {p : Program} {l : Launch} {e : Env} {s : State} {m : MethodId} {args : Array Value} {below : List Frame} {meth : Method} {c : Code} {D : va_G} {G : G3} {ad : Nat → Nat}
def fX9_isDigit_s44 (n : Nat)   (k0 : Int32) (st : St) : Option (Int32 × St) := if zb k0 = true then (some (k0, st)) else none
set_option maxHeartbeats 4000000 in
set_option maxRecDepth 100000 in
theorem wX9_isDigit_s44 (C : Cx p s m args meth c cX9_isDigit 1 wsL_law RX9 (some .boolean) D G ad) (n : Nat)   (k0 : Int32)   (st : St) (res : (Int32 × St))  (hf : fX9_isDigit_s44 n   k0 st = some res) : At p l e (rmK 0) s m args below meth c D G ad (MQI D G ad below args s res) 1 st [] 44 [.int k0] := by
  obtain ⟨hx, hb, hml, hown, hts, hr, hlk, hK, had, hSt⟩ := id C
  intro H locs ls hl hP hS
  unfold fX9_isDigit_s44 at hf
  obtain ⟨gz, hf⟩ := gd hf
  exact g_zret hx hb hr hlk hP hS (zb_of gz) dX9_isDigit_44 hf
def fX9_isDigit_s43 (n : Nat)    (st : St) : Option (Int32 × St) := fX9_isDigit_s44 n 0 st
set_option maxHeartbeats 4000000 in
set_option maxRecDepth 100000 in
theorem wX9_isDigit_s43 (C : Cx p s m args meth c cX9_isDigit 1 wsL_law RX9 (some .boolean) D G ad) (n : Nat)      (st : St) (res : (Int32 × St))  (hf : fX9_isDigit_s43 n    st = some res) : At p l e (rmK 0) s m args below meth c D G ad (MQI D G ad below args s res) 1 st [] 43 [] := by
  obtain ⟨hx, hb, hml, hown, hts, hr, hlk, hK, had, hSt⟩ := id C
  intro H locs ls hl hP hS
  unfold fX9_isDigit_s43 at hf
  refine lv_iconst (v := 0) hx hb dX9_isDigit_43 (by decide) ?_
  exact wX9_isDigit_s44 C n 0 st res hf H locs ls (lv_sub hl [] rfl) hP hS
def fX9_isDigit_s39 (n : Nat)    (st : St) : Option (Int32 × St) := fX9_isDigit_s44 n 1 st
set_option maxHeartbeats 4000000 in
set_option maxRecDepth 100000 in
theorem wX9_isDigit_s39 (C : Cx p s m args meth c cX9_isDigit 1 wsL_law RX9 (some .boolean) D G ad) (n : Nat)      (st : St) (res : (Int32 × St))  (hf : fX9_isDigit_s39 n    st = some res) : At p l e (rmK 0) s m args below meth c D G ad (MQI D G ad below args s res) 1 st [] 39 [] := by
  obtain ⟨hx, hb, hml, hown, hts, hr, hlk, hK, had, hSt⟩ := id C
  intro H locs ls hl hP hS
  unfold fX9_isDigit_s39 at hf
  refine lv_iconst (v := 1) hx hb dX9_isDigit_39 (by decide) ?_
  refine lv_goto (tgt := 44) hx hb dX9_isDigit_40 (by decide) ?_
  exact wX9_isDigit_s44 C n 1 st res hf H locs ls (lv_sub hl [] rfl) hP hS
def fX9_isDigit_s25 (n : Nat)    (st : St) : Option (Int32 × St) := if inb (st.1 15 3) 120 = true then (if 57 < (st.1 16 (st.1 15 3).toNatClampNeg) then fX9_isDigit_s43 n st else fX9_isDigit_s39 n st) else none
set_option maxHeartbeats 4000000 in
set_option maxRecDepth 100000 in
theorem wX9_isDigit_s25 (C : Cx p s m args meth c cX9_isDigit 1 wsL_law RX9 (some .boolean) D G ad) (n : Nat)      (st : St) (res : (Int32 × St))  (hf : fX9_isDigit_s25 n    st = some res) : At p l e (rmK 0) s m args below meth c D G ad (MQI D G ad below args s res) 1 st [(0, .ref (ad 15))] 25 [] := by
  obtain ⟨hx, hb, hml, hown, hts, hr, hlk, hK, had, hSt⟩ := id C
  intro H locs ls hl hP hS
  unfold fX9_isDigit_s25 at hf
  refine lv_aload_n hx hb dX9_isDigit_25 rfl (lv_at hl 0 rfl) ?_
  refine g_getR hx hb hts inlX9 hown hK hP 15 ct_15 rfl 0 (by decide) (hts _ wm_4_9) rfl dX9_isDigit_26 ?_
  refine lv_aload_n hx hb dX9_isDigit_29 rfl (lv_at hl 0 rfl) ?_
  refine g_getI hx hb hts inlX9 hown hK hP 15 ct_15 rfl 3 (by decide) (hts _ wm_26_1) rfl dX9_isDigit_30 ?_
  obtain ⟨g1, hf⟩ := gd hf
  refine g_iald hx hb hK hP 16 ct_16 g1 dX9_isDigit_33 ?_
  refine lv_bipush (v := 57) hx hb dX9_isDigit_34 (by decide) ?_
  refine lv_icmp_gt (tgt := 43) hx hb dX9_isDigit_36 (by decide) (fun q => ?_) (fun q => ?_)
  · exact wX9_isDigit_s43 C n st res (it hf q) H locs ls (lv_sub hl [] rfl) hP hS
  · exact wX9_isDigit_s39 C n st res (ie hf q) H locs ls (lv_sub hl [] rfl) hP hS
def fX9_isDigit_s11 (n : Nat)    (st : St) : Option (Int32 × St) := if inb (st.1 15 3) 120 = true then (if (st.1 16 (st.1 15 3).toNatClampNeg) < 48 then fX9_isDigit_s43 n st else fX9_isDigit_s25 n st) else none
set_option maxHeartbeats 4000000 in
set_option maxRecDepth 100000 in
theorem wX9_isDigit_s11 (C : Cx p s m args meth c cX9_isDigit 1 wsL_law RX9 (some .boolean) D G ad) (n : Nat)      (st : St) (res : (Int32 × St))  (hf : fX9_isDigit_s11 n    st = some res) : At p l e (rmK 0) s m args below meth c D G ad (MQI D G ad below args s res) 1 st [(0, .ref (ad 15))] 11 [] := by
  obtain ⟨hx, hb, hml, hown, hts, hr, hlk, hK, had, hSt⟩ := id C
  intro H locs ls hl hP hS
  unfold fX9_isDigit_s11 at hf
  refine lv_aload_n hx hb dX9_isDigit_11 rfl (lv_at hl 0 rfl) ?_
  refine g_getR hx hb hts inlX9 hown hK hP 15 ct_15 rfl 0 (by decide) (hts _ wm_4_9) rfl dX9_isDigit_12 ?_
  refine lv_aload_n hx hb dX9_isDigit_15 rfl (lv_at hl 0 rfl) ?_
  refine g_getI hx hb hts inlX9 hown hK hP 15 ct_15 rfl 3 (by decide) (hts _ wm_26_1) rfl dX9_isDigit_16 ?_
  obtain ⟨g1, hf⟩ := gd hf
  refine g_iald hx hb hK hP 16 ct_16 g1 dX9_isDigit_19 ?_
  refine lv_bipush (v := 48) hx hb dX9_isDigit_20 (by decide) ?_
  refine lv_icmp_lt (tgt := 43) hx hb dX9_isDigit_22 (by decide) (fun q => ?_) (fun q => ?_)
  · exact wX9_isDigit_s43 C n st res (it hf q) H locs ls (lv_sub hl [] rfl) hP hS
  · exact wX9_isDigit_s25 C n st res (ie hf q) H locs ls (lv_sub hl [0] rfl) hP hS
def fX9_isDigit_s0 (n : Nat)    (st : St) : Option (Int32 × St) := if (st.1 15 2) ≤ (st.1 15 3) then fX9_isDigit_s43 n st else fX9_isDigit_s11 n st
set_option maxHeartbeats 4000000 in
set_option maxRecDepth 100000 in
theorem wX9_isDigit_s0 (C : Cx p s m args meth c cX9_isDigit 1 wsL_law RX9 (some .boolean) D G ad) (n : Nat)      (st : St) (res : (Int32 × St))  (hf : fX9_isDigit_s0 n    st = some res) : At p l e (rmK 0) s m args below meth c D G ad (MQI D G ad below args s res) 1 st [(0, .ref (ad 15))] 0 [] := by
  obtain ⟨hx, hb, hml, hown, hts, hr, hlk, hK, had, hSt⟩ := id C
  intro H locs ls hl hP hS
  unfold fX9_isDigit_s0 at hf
  refine lv_aload_n hx hb dX9_isDigit_0 rfl (lv_at hl 0 rfl) ?_
  refine g_getI hx hb hts inlX9 hown hK hP 15 ct_15 rfl 3 (by decide) (hts _ wm_26_1) rfl dX9_isDigit_1 ?_
  refine lv_aload_n hx hb dX9_isDigit_4 rfl (lv_at hl 0 rfl) ?_
  refine g_getI hx hb hts inlX9 hown hK hP 15 ct_15 rfl 2 (by decide) (hts _ wm_25_5) rfl dX9_isDigit_5 ?_
  refine lv_icmp_ge (tgt := 43) hx hb dX9_isDigit_8 (by decide) (fun q => ?_) (fun q => ?_)
  · exact wX9_isDigit_s43 C n st res (it hf q) H locs ls (lv_sub hl [] rfl) hP hS
  · exact wX9_isDigit_s11 C n st res (ie hf q) H locs ls (lv_sub hl [0] rfl) hP hS
def fX9_isDigit (n : Nat)   (st : St) : Option (Int32 × St) := fX9_isDigit_s0 n st
theorem okX9_isDigit : okY yX9_isDigit RX9 0 := by unfold okY; decide +kernel
end
set_option maxRecDepth 100000 in
theorem kX9_isDigit (l : Launch) (D : va_G) (G : G3) (ad : Nat → Nat) (had : Adr ad) (n : Nat)    (st : St) (res : (Int32 × St)) (hf : fX9_isDigit n   st = some res) {sz : Nat} : CtI l yX9_isDigit (wsU yX9_isDigit cX9_isDigit 1 (some .boolean)) (rmK 0) D G ad sz [.ref (ad 15)] st res := by
  refine Met.ofW (cc := cX9_isDigit) (maxL := 1) (ret := (some .boolean)) (by decide) rfl ?_
  intro p e s m args below meth c s₁ B hml hv
  obtain ⟨rfl, hsz, hP, hK, hSt⟩ := hv
  have hts := atoms_spec (ws := wsU yX9_isDigit cX9_isDigit 1 (some .boolean)) B.pre
  have C : Cx p s m _ meth c cX9_isDigit 1 wsL_law RX9 (some .boolean) D G ad := ⟨B.exec, B.bytes, hml, findClass_of_methodNamed B.named, fun w h => hts w (List.mem_cons_of_mem _ h), B.returns, B.notSynchronized, hK, had, hSt⟩
  subst hsz
  have hl := lv_entry ([.ref (ad 15)]) (n := 1) (Nat.le_of_ble_eq_true rfl)
  rw [lg_entry_eq]
  generalize (lg_sl ([.ref (ad 15)]) ++ List.replicate (1 - (lg_sl ([.ref (ad 15)])).length) Slot.unset).toArray = ls at hl ⊢
  exact wX9_isDigit_s0 C n     st res hf s.heap [] ls (lv_sub hl [0] rfl) hP va_S.rf
section
variable {p : Program} {l : Launch} {e : Env} {s : State} {m : MethodId} {args : Array Value} {below : List Frame} {meth : Method} {c : Code} {D : va_G} {G : G3} {ad : Nat → Nat}
def fX9_take_s24 (n : Nat)   (v2 : Int32) (st : St) : Option (Int32 × St) := if zb v2 = true then (some (v2, st)) else none
set_option maxHeartbeats 4000000 in
set_option maxRecDepth 100000 in
theorem wX9_take_s24 (C : Cx p s m args meth c cX9_take 3 wsL_law RX9 (some .boolean) D G ad) (n : Nat)   (v2 : Int32)   (st : St) (res : (Int32 × St))  (hf : fX9_take_s24 n   v2 st = some res) : At p l e (rmK 1) s m args below meth c D G ad (MQI D G ad below args s res) 3 st [(2, .int v2)] 24 [] := by
  obtain ⟨hx, hb, hml, hown, hts, hr, hlk, hK, had, hSt⟩ := id C
  intro H locs ls hl hP hS
  unfold fX9_take_s24 at hf
  refine lv_iload_n hx hb dX9_take_24 rfl (lv_at hl 0 rfl) ?_
  obtain ⟨gz, hf⟩ := gd hf
  exact g_zret hx hb hr hlk hP hS (zb_of gz) dX9_take_25 hf
def fX9_take_s20 (n : Nat)   (v2 : Int32) (k1 : Int32) (k2 : Int32) (st : St) : Option (Int32 × St) := fX9_take_s24 n v2 (setI st 15 3 (k1 + k2))
set_option maxHeartbeats 4000000 in
set_option maxRecDepth 100000 in
theorem wX9_take_s20 (C : Cx p s m args meth c cX9_take 3 wsL_law RX9 (some .boolean) D G ad) (n : Nat)   (v2 : Int32) (k1 : Int32) (k2 : Int32)   (st : St) (res : (Int32 × St))  (hf : fX9_take_s20 n   v2 k1 k2 st = some res) : At p l e (rmK 1) s m args below meth c D G ad (MQI D G ad below args s res) 3 st [(2, .int v2)] 20 [.int k2, .int k1, .ref (ad 15)] := by
  obtain ⟨hx, hb, hml, hown, hts, hr, hlk, hK, had, hSt⟩ := id C
  intro H locs ls hl hP hS
  unfold fX9_take_s20 at hf
  refine lv_iadd hx hb dX9_take_20 ?_
  refine g_putI hx hb hts inlX9 tyX9_ok nmX9 hown hK had hP hS 15 ct_15 rfl 3 (by decide) (hts _ wm_26_1) rfl rfl rfl rfl rfl dX9_take_21 (fun H locs hP hS => ?_)
  exact wX9_take_s24 C n v2 (setI st 15 3 (k1 + k2)) res hf H locs ls (lv_sub hl [0] rfl) hP hS
def fX9_take_s19 (n : Nat)   (v2 : Int32) (k1 : Int32) (st : St) : Option (Int32 × St) := fX9_take_s20 n v2 k1 0 st
set_option maxHeartbeats 4000000 in
set_option maxRecDepth 100000 in
theorem wX9_take_s19 (C : Cx p s m args meth c cX9_take 3 wsL_law RX9 (some .boolean) D G ad) (n : Nat)   (v2 : Int32) (k1 : Int32)   (st : St) (res : (Int32 × St))  (hf : fX9_take_s19 n   v2 k1 st = some res) : At p l e (rmK 1) s m args below meth c D G ad (MQI D G ad below args s res) 3 st [(2, .int v2)] 19 [.int k1, .ref (ad 15)] := by
  obtain ⟨hx, hb, hml, hown, hts, hr, hlk, hK, had, hSt⟩ := id C
  intro H locs ls hl hP hS
  unfold fX9_take_s19 at hf
  refine lv_iconst (v := 0) hx hb dX9_take_19 (by decide) ?_
  exact wX9_take_s20 C n v2 k1 0 st res hf H locs ls (lv_sub hl [0] rfl) hP hS
def fX9_take_s15 (n : Nat)   (v2 : Int32) (k1 : Int32) (st : St) : Option (Int32 × St) := fX9_take_s20 n v2 k1 1 st
set_option maxHeartbeats 4000000 in
set_option maxRecDepth 100000 in
theorem wX9_take_s15 (C : Cx p s m args meth c cX9_take 3 wsL_law RX9 (some .boolean) D G ad) (n : Nat)   (v2 : Int32) (k1 : Int32)   (st : St) (res : (Int32 × St))  (hf : fX9_take_s15 n   v2 k1 st = some res) : At p l e (rmK 1) s m args below meth c D G ad (MQI D G ad below args s res) 3 st [(2, .int v2)] 15 [.int k1, .ref (ad 15)] := by
  obtain ⟨hx, hb, hml, hown, hts, hr, hlk, hK, had, hSt⟩ := id C
  intro H locs ls hl hP hS
  unfold fX9_take_s15 at hf
  refine lv_iconst (v := 1) hx hb dX9_take_15 (by decide) ?_
  refine lv_goto (tgt := 20) hx hb dX9_take_16 (by decide) ?_
  exact wX9_take_s20 C n v2 k1 1 st res hf H locs ls (lv_sub hl [0] rfl) hP hS
def fX9_take_s5 (n : Nat)   (k0 : Int32) (st : St) : Option (Int32 × St) := if k0 = 0 then fX9_take_s19 n k0 (st.1 15 3) st else fX9_take_s15 n k0 (st.1 15 3) st
set_option maxHeartbeats 4000000 in
set_option maxRecDepth 100000 in
theorem wX9_take_s5 (C : Cx p s m args meth c cX9_take 3 wsL_law RX9 (some .boolean) D G ad) (n : Nat)   (k0 : Int32)   (st : St) (res : (Int32 × St))  (hf : fX9_take_s5 n   k0 st = some res) : At p l e (rmK 1) s m args below meth c D G ad (MQI D G ad below args s res) 3 st [(0, .ref (ad 15))] 5 [.int k0] := by
  obtain ⟨hx, hb, hml, hown, hts, hr, hlk, hK, had, hSt⟩ := id C
  intro H locs ls hl hP hS
  unfold fX9_take_s5 at hf
  refine lv_istore_n (lv' := [(2, .int k0), (0, .ref (ad 15))]) hx hb dX9_take_5 rfl hl (by decide) rfl (fun ls hl => ?_)
  refine lv_aload_n hx hb dX9_take_6 rfl (lv_at hl 1 rfl) ?_
  refine lv_dup hx hb dX9_take_7 rfl ?_
  refine g_getI hx hb hts inlX9 hown hK hP 15 ct_15 rfl 3 (by decide) (hts _ wm_26_1) rfl dX9_take_8 ?_
  refine lv_iload_n hx hb dX9_take_11 rfl (lv_at hl 0 rfl) ?_
  refine lv_if_eq (tgt := 19) hx hb dX9_take_12 (by decide) (fun q => ?_) (fun q => ?_)
  · exact wX9_take_s19 C n k0 (st.1 15 3) st res (it hf q) H locs ls (lv_sub hl [0] rfl) hP hS
  · exact wX9_take_s15 C n k0 (st.1 15 3) st res (ie hf q) H locs ls (lv_sub hl [0] rfl) hP hS
def fX9_take_s0 (n : Nat)   (v1 : Int32) (st : St) : Option (Int32 × St) := (fX9_isNext n v1 st).bind (fun q => fX9_take_s5 n q.1 q.2)
set_option maxHeartbeats 4000000 in
set_option maxRecDepth 100000 in
theorem wX9_take_s0 (C : Cx p s m args meth c cX9_take 3 wsL_law RX9 (some .boolean) D G ad) (n : Nat)   (v1 : Int32)   (st : St) (res : (Int32 × St))  (hf : fX9_take_s0 n   v1 st = some res) : At p l e (rmK 1) s m args below meth c D G ad (MQI D G ad below args s res) 3 st [(0, .ref (ad 15)), (1, .int v1)] 0 [] := by
  obtain ⟨hx, hb, hml, hown, hts, hr, hlk, hK, had, hSt⟩ := id C
  intro H locs ls hl hP hS
  unfold fX9_take_s0 at hf
  refine lv_aload_n hx hb dX9_take_0 rfl (lv_at hl 0 rfl) ?_
  refine lv_iload_n hx hb dX9_take_1 rfl (lv_at hl 1 rfl) ?_
  obtain ⟨q, hq, hf⟩ := bd hf
  refine gcV_i (k := 0) (o := 15) (As := [.int v1]) (rest := []) hx hb hml hown hts hK hSt hP hS hl.1 (goodV wm_26_10 wm_26_11 wm_26_12 wm_1_23 wm_26_13) okX9_isNext ct_15 rfl rfl (Nat.le_of_ble_eq_true rfl) (Nat.le_of_ble_eq_true rfl) rfl rfl (Nat.le_of_ble_eq_true rfl) dX9_take_2 (kX9_isNext l D G ad had n  v1 st q hq) (fun H locs hP hS => ?_)
  exact wX9_take_s5 C n q.1 q.2 res hf H locs ls (lv_sub hl [0] rfl) hP hS
def fX9_take (n : Nat)  (a1 : Int32) (st : St) : Option (Int32 × St) := fX9_take_s0 n a1 st
theorem okX9_take : okY yX9_take RX9 1 := by unfold okY; decide +kernel
end
set_option maxRecDepth 100000 in
theorem kX9_take (l : Launch) (D : va_G) (G : G3) (ad : Nat → Nat) (had : Adr ad) (n : Nat)   (a1 : Int32) (st : St) (res : (Int32 × St)) (hf : fX9_take n  a1 st = some res) {sz : Nat} : CtI l yX9_take (wsU yX9_take cX9_take 3 (some .boolean)) (rmK 1) D G ad sz [.ref (ad 15), .int a1] st res := by
  refine Met.ofW (cc := cX9_take) (maxL := 3) (ret := (some .boolean)) (by decide) rfl ?_
  intro p e s m args below meth c s₁ B hml hv
  obtain ⟨rfl, hsz, hP, hK, hSt⟩ := hv
  have hts := atoms_spec (ws := wsU yX9_take cX9_take 3 (some .boolean)) B.pre
  have C : Cx p s m _ meth c cX9_take 3 wsL_law RX9 (some .boolean) D G ad := ⟨B.exec, B.bytes, hml, findClass_of_methodNamed B.named, fun w h => hts w (List.mem_cons_of_mem _ h), B.returns, B.notSynchronized, hK, had, hSt⟩
  subst hsz
  have hl := lv_entry ([.ref (ad 15), .int a1]) (n := 3) (Nat.le_of_ble_eq_true rfl)
  rw [lg_entry_eq]
  generalize (lg_sl ([.ref (ad 15), .int a1]) ++ List.replicate (3 - (lg_sl ([.ref (ad 15), .int a1])).length) Slot.unset).toArray = ls at hl ⊢
  exact wX9_take_s0 C n  a1   st res hf s.heap [] ls (lv_sub hl [0, 1] rfl) hP va_S.rf
section
variable {p : Program} {l : Launch} {e : Env} {s : State} {m : MethodId} {args : Array Value} {below : List Frame} {meth : Method} {c : Code} {D : va_G} {G : G3} {ad : Nat → Nat}
def fX9_openOne_s20 (n : Nat)   (k0 : Int32) (st : St) : Option (Int32 × St) := if zb k0 = true then (some (k0, st)) else none
set_option maxHeartbeats 4000000 in
set_option maxRecDepth 100000 in
theorem wX9_openOne_s20 (C : Cx p s m args meth c cX9_openOne 2 wsL_law RX9 (some .boolean) D G ad) (n : Nat)   (k0 : Int32)   (st : St) (res : (Int32 × St))  (hf : fX9_openOne_s20 n   k0 st = some res) : At p l e (rmK 2) s m args below meth c D G ad (MQI D G ad below args s res) 2 st [] 20 [.int k0] := by
  obtain ⟨hx, hb, hml, hown, hts, hr, hlk, hK, had, hSt⟩ := id C
  intro H locs ls hl hP hS
  unfold fX9_openOne_s20 at hf
  obtain ⟨gz, hf⟩ := gd hf
  exact g_zret hx hb hr hlk hP hS (zb_of gz) dX9_openOne_20 hf
def fX9_openOne_s19 (n : Nat)    (st : St) : Option (Int32 × St) := fX9_openOne_s20 n 0 st
set_option maxHeartbeats 4000000 in
set_option maxRecDepth 100000 in
theorem wX9_openOne_s19 (C : Cx p s m args meth c cX9_openOne 2 wsL_law RX9 (some .boolean) D G ad) (n : Nat)      (st : St) (res : (Int32 × St))  (hf : fX9_openOne_s19 n    st = some res) : At p l e (rmK 2) s m args below meth c D G ad (MQI D G ad below args s res) 2 st [] 19 [] := by
  obtain ⟨hx, hb, hml, hown, hts, hr, hlk, hK, had, hSt⟩ := id C
  intro H locs ls hl hP hS
  unfold fX9_openOne_s19 at hf
  refine lv_iconst (v := 0) hx hb dX9_openOne_19 (by decide) ?_
  exact wX9_openOne_s20 C n 0 st res hf H locs ls (lv_sub hl [] rfl) hP hS
def fX9_openOne_s15 (n : Nat)    (st : St) : Option (Int32 × St) := fX9_openOne_s20 n 1 st
set_option maxHeartbeats 4000000 in
set_option maxRecDepth 100000 in
theorem wX9_openOne_s15 (C : Cx p s m args meth c cX9_openOne 2 wsL_law RX9 (some .boolean) D G ad) (n : Nat)      (st : St) (res : (Int32 × St))  (hf : fX9_openOne_s15 n    st = some res) : At p l e (rmK 2) s m args below meth c D G ad (MQI D G ad below args s res) 2 st [] 15 [] := by
  obtain ⟨hx, hb, hml, hown, hts, hr, hlk, hK, had, hSt⟩ := id C
  intro H locs ls hl hP hS
  unfold fX9_openOne_s15 at hf
  refine lv_iconst (v := 1) hx hb dX9_openOne_15 (by decide) ?_
  refine lv_goto (tgt := 20) hx hb dX9_openOne_16 (by decide) ?_
  exact wX9_openOne_s20 C n 1 st res hf H locs ls (lv_sub hl [] rfl) hP hS
def fX9_openOne_s12 (n : Nat)   (k0 : Int32) (st : St) : Option (Int32 × St) := if k0 = 0 then fX9_openOne_s19 n st else fX9_openOne_s15 n st
set_option maxHeartbeats 4000000 in
set_option maxRecDepth 100000 in
theorem wX9_openOne_s12 (C : Cx p s m args meth c cX9_openOne 2 wsL_law RX9 (some .boolean) D G ad) (n : Nat)   (k0 : Int32)   (st : St) (res : (Int32 × St))  (hf : fX9_openOne_s12 n   k0 st = some res) : At p l e (rmK 2) s m args below meth c D G ad (MQI D G ad below args s res) 2 st [] 12 [.int k0] := by
  obtain ⟨hx, hb, hml, hown, hts, hr, hlk, hK, had, hSt⟩ := id C
  intro H locs ls hl hP hS
  unfold fX9_openOne_s12 at hf
  refine lv_if_eq (tgt := 19) hx hb dX9_openOne_12 (by decide) (fun q => ?_) (fun q => ?_)
  · exact wX9_openOne_s19 C n st res (it hf q) H locs ls (lv_sub hl [] rfl) hP hS
  · exact wX9_openOne_s15 C n st res (ie hf q) H locs ls (lv_sub hl [] rfl) hP hS
def fX9_openOne_s6 (n : Nat)    (st : St) : Option (Int32 × St) := (fX9_take n 40 st).bind (fun q => fX9_openOne_s12 n q.1 q.2)
set_option maxHeartbeats 4000000 in
set_option maxRecDepth 100000 in
theorem wX9_openOne_s6 (C : Cx p s m args meth c cX9_openOne 2 wsL_law RX9 (some .boolean) D G ad) (n : Nat)      (st : St) (res : (Int32 × St))  (hf : fX9_openOne_s6 n    st = some res) : At p l e (rmK 2) s m args below meth c D G ad (MQI D G ad below args s res) 2 st [(0, .ref (ad 15))] 6 [] := by
  obtain ⟨hx, hb, hml, hown, hts, hr, hlk, hK, had, hSt⟩ := id C
  intro H locs ls hl hP hS
  unfold fX9_openOne_s6 at hf
  refine lv_aload_n hx hb dX9_openOne_6 rfl (lv_at hl 0 rfl) ?_
  refine lv_bipush (v := 40) hx hb dX9_openOne_7 (by decide) ?_
  obtain ⟨q, hq, hf⟩ := bd hf
  refine gcV_i (k := 1) (o := 15) (As := [.int 40]) (rest := []) hx hb hml hown hts hK hSt hP hS hl.1 (goodV wm_27_7 wm_27_8 wm_27_9 wm_1_23 wm_27_10) okX9_take ct_15 rfl rfl (Nat.le_of_ble_eq_true rfl) (Nat.le_of_ble_eq_true rfl) rfl rfl (Nat.le_of_ble_eq_true rfl) dX9_openOne_9 (kX9_take l D G ad had n  40 st q hq) (fun H locs hP hS => ?_)
  exact wX9_openOne_s12 C n q.1 q.2 res hf H locs ls (lv_sub hl [] rfl) hP hS
def fX9_openOne_s0 (n : Nat)   (v1 : Int32) (st : St) : Option (Int32 × St) := if 6 ≤ v1 then fX9_openOne_s19 n st else fX9_openOne_s6 n st
set_option maxHeartbeats 4000000 in
set_option maxRecDepth 100000 in
theorem wX9_openOne_s0 (C : Cx p s m args meth c cX9_openOne 2 wsL_law RX9 (some .boolean) D G ad) (n : Nat)   (v1 : Int32)   (st : St) (res : (Int32 × St))  (hf : fX9_openOne_s0 n   v1 st = some res) : At p l e (rmK 2) s m args below meth c D G ad (MQI D G ad below args s res) 2 st [(0, .ref (ad 15)), (1, .int v1)] 0 [] := by
  obtain ⟨hx, hb, hml, hown, hts, hr, hlk, hK, had, hSt⟩ := id C
  intro H locs ls hl hP hS
  unfold fX9_openOne_s0 at hf
  refine lv_iload_n hx hb dX9_openOne_0 rfl (lv_at hl 1 rfl) ?_
  refine lv_bipush (v := 6) hx hb dX9_openOne_1 (by decide) ?_
  refine lv_icmp_ge (tgt := 19) hx hb dX9_openOne_3 (by decide) (fun q => ?_) (fun q => ?_)
  · exact wX9_openOne_s19 C n st res (it hf q) H locs ls (lv_sub hl [] rfl) hP hS
  · exact wX9_openOne_s6 C n st res (ie hf q) H locs ls (lv_sub hl [0] rfl) hP hS
def fX9_openOne (n : Nat)  (a1 : Int32) (st : St) : Option (Int32 × St) := fX9_openOne_s0 n a1 st
theorem okX9_openOne : okY yX9_openOne RX9 1 := by unfold okY; decide +kernel
end
set_option maxRecDepth 100000 in
theorem kX9_openOne (l : Launch) (D : va_G) (G : G3) (ad : Nat → Nat) (had : Adr ad) (n : Nat)   (a1 : Int32) (st : St) (res : (Int32 × St)) (hf : fX9_openOne n  a1 st = some res) {sz : Nat} : CtI l yX9_openOne (wsU yX9_openOne cX9_openOne 2 (some .boolean)) (rmK 2) D G ad sz [.ref (ad 15), .int a1] st res := by
  refine Met.ofW (cc := cX9_openOne) (maxL := 2) (ret := (some .boolean)) (by decide) rfl ?_
  intro p e s m args below meth c s₁ B hml hv
  obtain ⟨rfl, hsz, hP, hK, hSt⟩ := hv
  have hts := atoms_spec (ws := wsU yX9_openOne cX9_openOne 2 (some .boolean)) B.pre
  have C : Cx p s m _ meth c cX9_openOne 2 wsL_law RX9 (some .boolean) D G ad := ⟨B.exec, B.bytes, hml, findClass_of_methodNamed B.named, fun w h => hts w (List.mem_cons_of_mem _ h), B.returns, B.notSynchronized, hK, had, hSt⟩
  subst hsz
  have hl := lv_entry ([.ref (ad 15), .int a1]) (n := 2) (Nat.le_of_ble_eq_true rfl)
  rw [lg_entry_eq]
  generalize (lg_sl ([.ref (ad 15), .int a1]) ++ List.replicate (2 - (lg_sl ([.ref (ad 15), .int a1])).length) Slot.unset).toArray = ls at hl ⊢
  exact wX9_openOne_s0 C n  a1   st res hf s.heap [] ls (lv_sub hl [0, 1] rfl) hP va_S.rf
section
variable {p : Program} {l : Launch} {e : Env} {s : State} {m : MethodId} {args : Array Value} {below : List Frame} {meth : Method} {c : Code} {D : va_G} {G : G3} {ad : Nat → Nat}
def fX9_readNumber_s55 (n : Nat)    (st : St) : Option (Unit × St) := some ((), st)
set_option maxHeartbeats 4000000 in
set_option maxRecDepth 100000 in
theorem wX9_readNumber_s55 (C : Cx p s m args meth c cX9_readNumber 3 wsL_law RX9 none D G ad) (n : Nat)      (st : St) (res : (Unit × St))  (hf : fX9_readNumber_s55 n    st = some res) : At p l e (rmK 1) s m args below meth c D G ad (MQV D G ad below args s res) 3 st [] 55 [] := by
  obtain ⟨hx, hb, hml, hown, hts, hr, hlk, hK, had, hSt⟩ := id C
  intro H locs ls hl hP hS
  unfold fX9_readNumber_s55 at hf
  exact g_vret hx hb hr hlk hP hS dX9_readNumber_55 hf
def fX9_readNumber_s50 (n : Nat)   (v1 : Int32) (st : St) : Option (Unit × St) := (fX9_emit n v1 st).bind (fun q => fX9_readNumber_s55 n q.2)
set_option maxHeartbeats 4000000 in
set_option maxRecDepth 100000 in
theorem wX9_readNumber_s50 (C : Cx p s m args meth c cX9_readNumber 3 wsL_law RX9 none D G ad) (n : Nat)   (v1 : Int32)   (st : St) (res : (Unit × St))  (hf : fX9_readNumber_s50 n   v1 st = some res) : At p l e (rmK 1) s m args below meth c D G ad (MQV D G ad below args s res) 3 st [(0, .ref (ad 15)), (1, .int v1)] 50 [] := by
  obtain ⟨hx, hb, hml, hown, hts, hr, hlk, hK, had, hSt⟩ := id C
  intro H locs ls hl hP hS
  unfold fX9_readNumber_s50 at hf
  refine lv_aload_n hx hb dX9_readNumber_50 rfl (lv_at hl 0 rfl) ?_
  refine lv_iload_n hx hb dX9_readNumber_51 rfl (lv_at hl 1 rfl) ?_
  obtain ⟨q, hq, hf⟩ := bd hf
  refine gcV_v (k := 0) (o := 15) (As := [.int v1]) (rest := []) hx hb hml hown hts hK hSt hP hS hl.1 (goodV wm_26_14 wm_26_15 wm_26_16 wm_1_23 wm_26_17) okX9_emit ct_15 rfl rfl (Nat.le_of_ble_eq_true rfl) (Nat.le_of_ble_eq_true rfl) rfl rfl (Nat.le_of_ble_eq_true rfl) dX9_readNumber_52 (kX9_emit l D G ad had n  v1 st q hq) (fun H locs hP hS => ?_)
  exact wX9_readNumber_s55 C n q.2 res hf H locs ls (lv_sub hl [] rfl) hP hS
def fX9_readNumber_s44 (n : Nat) (K4 : Int32 → Int32 → St → Option (Unit × St))  (v1 : Int32) (v2 : Int32) (st : St) : Option (Unit × St) := K4 v1 (v2 + 1) st
set_option maxHeartbeats 4000000 in
set_option maxRecDepth 100000 in
theorem wX9_readNumber_s44 (C : Cx p s m args meth c cX9_readNumber 3 wsL_law RX9 none D G ad) (n : Nat) (K4 : Int32 → Int32 → St → Option (Unit × St))  (v1 : Int32) (v2 : Int32)   (st : St) (res : (Unit × St)) (hK4 : ∀ (v1 : Int32) (v2 : Int32) (st : St), K4 v1 v2 st = some res → At p l e (rmK 1) s m args below meth c D G ad (MQV D G ad below args s res) 3 st [(0, .ref (ad 15)), (1, .int v1), (2, .int v2)] 4 []) (hf : fX9_readNumber_s44 n K4  v1 v2 st = some res) : At p l e (rmK 1) s m args below meth c D G ad (MQV D G ad below args s res) 3 st [(0, .ref (ad 15)), (1, .int v1), (2, .int v2)] 44 [] := by
  obtain ⟨hx, hb, hml, hown, hts, hr, hlk, hK, had, hSt⟩ := id C
  intro H locs ls hl hP hS
  unfold fX9_readNumber_s44 at hf
  refine lv_iinc (v := v2 + 1) (lv' := [(2, .int (v2 + 1)), (0, .ref (ad 15)), (1, .int v1)]) hx hb dX9_readNumber_44 hl (k := 2) rfl rfl (by decide) rfl (fun ls hl => ?_)
  refine lv_goto (tgt := 4) hx hb dX9_readNumber_47 (by decide) ?_
  exact hK4 v1 (v2 + 1)  st hf H locs ls (lv_sub hl [1, 2, 0] rfl) hP hS
def fX9_readNumber_s16 (n : Nat) (K4 : Int32 → Int32 → St → Option (Unit × St))  (v1 : Int32) (v2 : Int32) (st : St) : Option (Unit × St) := if inb (st.1 15 3) 120 = true then (fX9_readNumber_s44 n K4 (((v1 * 10) + (st.1 16 (st.1 15 3).toNatClampNeg)) - 48) v2 (setI st 15 3 ((st.1 15 3) + 1))) else none
set_option maxHeartbeats 4000000 in
set_option maxRecDepth 100000 in
theorem wX9_readNumber_s16 (C : Cx p s m args meth c cX9_readNumber 3 wsL_law RX9 none D G ad) (n : Nat) (K4 : Int32 → Int32 → St → Option (Unit × St))  (v1 : Int32) (v2 : Int32)   (st : St) (res : (Unit × St)) (hK4 : ∀ (v1 : Int32) (v2 : Int32) (st : St), K4 v1 v2 st = some res → At p l e (rmK 1) s m args below meth c D G ad (MQV D G ad below args s res) 3 st [(0, .ref (ad 15)), (1, .int v1), (2, .int v2)] 4 []) (hf : fX9_readNumber_s16 n K4  v1 v2 st = some res) : At p l e (rmK 1) s m args below meth c D G ad (MQV D G ad below args s res) 3 st [(0, .ref (ad 15)), (1, .int v1), (2, .int v2)] 16 [] := by
  obtain ⟨hx, hb, hml, hown, hts, hr, hlk, hK, had, hSt⟩ := id C
  intro H locs ls hl hP hS
  unfold fX9_readNumber_s16 at hf
  refine lv_iload_n hx hb dX9_readNumber_16 rfl (lv_at hl 1 rfl) ?_
  refine lv_bipush (v := 10) hx hb dX9_readNumber_17 (by decide) ?_
  refine lv_imul hx hb dX9_readNumber_19 ?_
  refine lv_aload_n hx hb dX9_readNumber_20 rfl (lv_at hl 0 rfl) ?_
  refine g_getR hx hb hts inlX9 hown hK hP 15 ct_15 rfl 0 (by decide) (hts _ wm_4_9) rfl dX9_readNumber_21 ?_
  refine lv_aload_n hx hb dX9_readNumber_24 rfl (lv_at hl 0 rfl) ?_
  refine g_getI hx hb hts inlX9 hown hK hP 15 ct_15 rfl 3 (by decide) (hts _ wm_26_1) rfl dX9_readNumber_25 ?_
  obtain ⟨g1, hf⟩ := gd hf
  refine g_iald hx hb hK hP 16 ct_16 g1 dX9_readNumber_28 ?_
  refine lv_iadd hx hb dX9_readNumber_29 ?_
  refine lv_bipush (v := 48) hx hb dX9_readNumber_30 (by decide) ?_
  refine lv_isub hx hb dX9_readNumber_32 ?_
  refine lv_istore_n (lv' := [(1, .int (((v1 * 10) + (st.1 16 (st.1 15 3).toNatClampNeg)) - 48)), (0, .ref (ad 15)), (2, .int v2)]) hx hb dX9_readNumber_33 rfl hl (by decide) rfl (fun ls hl => ?_)
  refine lv_aload_n hx hb dX9_readNumber_34 rfl (lv_at hl 1 rfl) ?_
  refine lv_dup hx hb dX9_readNumber_35 rfl ?_
  refine g_getI hx hb hts inlX9 hown hK hP 15 ct_15 rfl 3 (by decide) (hts _ wm_26_1) rfl dX9_readNumber_36 ?_
  refine lv_iconst (v := 1) hx hb dX9_readNumber_39 (by decide) ?_
  refine lv_iadd hx hb dX9_readNumber_40 ?_
  refine g_putI hx hb hts inlX9 tyX9_ok nmX9 hown hK had hP hS 15 ct_15 rfl 3 (by decide) (hts _ wm_26_1) rfl rfl rfl rfl rfl dX9_readNumber_41 (fun H locs hP hS => ?_)
  exact wX9_readNumber_s44 C n K4 (((v1 * 10) + (st.1 16 (st.1 15 3).toNatClampNeg)) - 48) v2 (setI st 15 3 ((st.1 15 3) + 1)) res hK4 hf H locs ls (lv_sub hl [1, 0, 2] rfl) hP hS
def fX9_readNumber_s13 (n : Nat) (K4 : Int32 → Int32 → St → Option (Unit × St))  (v1 : Int32) (v2 : Int32) (k0 : Int32) (st : St) : Option (Unit × St) := if k0 = 0 then fX9_readNumber_s50 n v1 st else fX9_readNumber_s16 n K4 v1 v2 st
set_option maxHeartbeats 4000000 in
set_option maxRecDepth 100000 in
theorem wX9_readNumber_s13 (C : Cx p s m args meth c cX9_readNumber 3 wsL_law RX9 none D G ad) (n : Nat) (K4 : Int32 → Int32 → St → Option (Unit × St))  (v1 : Int32) (v2 : Int32) (k0 : Int32)   (st : St) (res : (Unit × St)) (hK4 : ∀ (v1 : Int32) (v2 : Int32) (st : St), K4 v1 v2 st = some res → At p l e (rmK 1) s m args below meth c D G ad (MQV D G ad below args s res) 3 st [(0, .ref (ad 15)), (1, .int v1), (2, .int v2)] 4 []) (hf : fX9_readNumber_s13 n K4  v1 v2 k0 st = some res) : At p l e (rmK 1) s m args below meth c D G ad (MQV D G ad below args s res) 3 st [(0, .ref (ad 15)), (1, .int v1), (2, .int v2)] 13 [.int k0] := by
  obtain ⟨hx, hb, hml, hown, hts, hr, hlk, hK, had, hSt⟩ := id C
  intro H locs ls hl hP hS
  unfold fX9_readNumber_s13 at hf
  refine lv_if_eq (tgt := 50) hx hb dX9_readNumber_13 (by decide) (fun q => ?_) (fun q => ?_)
  · exact wX9_readNumber_s50 C n v1 st res (it hf q) H locs ls (lv_sub hl [0, 1] rfl) hP hS
  · exact wX9_readNumber_s16 C n K4 v1 v2 st res hK4 (ie hf q) H locs ls (lv_sub hl [0, 1, 2] rfl) hP hS
def fX9_readNumber_s9 (n : Nat) (K4 : Int32 → Int32 → St → Option (Unit × St))  (v1 : Int32) (v2 : Int32) (st : St) : Option (Unit × St) := (fX9_isDigit n st).bind (fun q => fX9_readNumber_s13 n K4 v1 v2 q.1 q.2)
set_option maxHeartbeats 4000000 in
set_option maxRecDepth 100000 in
theorem wX9_readNumber_s9 (C : Cx p s m args meth c cX9_readNumber 3 wsL_law RX9 none D G ad) (n : Nat) (K4 : Int32 → Int32 → St → Option (Unit × St))  (v1 : Int32) (v2 : Int32)   (st : St) (res : (Unit × St)) (hK4 : ∀ (v1 : Int32) (v2 : Int32) (st : St), K4 v1 v2 st = some res → At p l e (rmK 1) s m args below meth c D G ad (MQV D G ad below args s res) 3 st [(0, .ref (ad 15)), (1, .int v1), (2, .int v2)] 4 []) (hf : fX9_readNumber_s9 n K4  v1 v2 st = some res) : At p l e (rmK 1) s m args below meth c D G ad (MQV D G ad below args s res) 3 st [(0, .ref (ad 15)), (1, .int v1), (2, .int v2)] 9 [] := by
  obtain ⟨hx, hb, hml, hown, hts, hr, hlk, hK, had, hSt⟩ := id C
  intro H locs ls hl hP hS
  unfold fX9_readNumber_s9 at hf
  refine lv_aload_n hx hb dX9_readNumber_9 rfl (lv_at hl 0 rfl) ?_
  obtain ⟨q, hq, hf⟩ := bd hf
  refine gcV_i (k := 0) (o := 15) (As := []) (rest := []) hx hb hml hown hts hK hSt hP hS hl.1 (goodV wm_26_19 wm_26_20 wm_26_21 wm_1_23 wm_26_22) okX9_isDigit ct_15 rfl rfl (Nat.le_of_ble_eq_true rfl) (Nat.le_of_ble_eq_true rfl) rfl rfl (Nat.le_of_ble_eq_true rfl) dX9_readNumber_10 (kX9_isDigit l D G ad had n   st q hq) (fun H locs hP hS => ?_)
  exact wX9_readNumber_s13 C n K4 v1 v2 q.1 q.2 res hK4 hf H locs ls (lv_sub hl [0, 1, 2] rfl) hP hS
def fX9_readNumber_s4 (n : Nat) (K4 : Int32 → Int32 → St → Option (Unit × St))  (v1 : Int32) (v2 : Int32) (st : St) : Option (Unit × St) := if 4 ≤ v2 then fX9_readNumber_s50 n v1 st else fX9_readNumber_s9 n K4 v1 v2 st
set_option maxHeartbeats 4000000 in
set_option maxRecDepth 100000 in
theorem wX9_readNumber_s4 (C : Cx p s m args meth c cX9_readNumber 3 wsL_law RX9 none D G ad) (n : Nat) (K4 : Int32 → Int32 → St → Option (Unit × St))  (v1 : Int32) (v2 : Int32)   (st : St) (res : (Unit × St)) (hK4 : ∀ (v1 : Int32) (v2 : Int32) (st : St), K4 v1 v2 st = some res → At p l e (rmK 1) s m args below meth c D G ad (MQV D G ad below args s res) 3 st [(0, .ref (ad 15)), (1, .int v1), (2, .int v2)] 4 []) (hf : fX9_readNumber_s4 n K4  v1 v2 st = some res) : At p l e (rmK 1) s m args below meth c D G ad (MQV D G ad below args s res) 3 st [(0, .ref (ad 15)), (1, .int v1), (2, .int v2)] 4 [] := by
  obtain ⟨hx, hb, hml, hown, hts, hr, hlk, hK, had, hSt⟩ := id C
  intro H locs ls hl hP hS
  unfold fX9_readNumber_s4 at hf
  refine lv_iload_n hx hb dX9_readNumber_4 rfl (lv_at hl 2 rfl) ?_
  refine lv_iconst (v := 4) hx hb dX9_readNumber_5 (by decide) ?_
  refine lv_icmp_ge (tgt := 50) hx hb dX9_readNumber_6 (by decide) (fun q => ?_) (fun q => ?_)
  · exact wX9_readNumber_s50 C n v1 st res (it hf q) H locs ls (lv_sub hl [0, 1] rfl) hP hS
  · exact wX9_readNumber_s9 C n K4 v1 v2 st res hK4 (ie hf q) H locs ls (lv_sub hl [0, 1, 2] rfl) hP hS
def fX9_readNumber_L4 (n : Nat)   : Nat → Int32 → Int32 → St → Option (Unit × St)
  | 0, _, _, _ => none
  | k + 1, v1, v2, st => fX9_readNumber_s4 n (fX9_readNumber_L4 n k)  v1 v2 st
theorem wX9_readNumber_L4 (C : Cx p s m args meth c cX9_readNumber 3 wsL_law RX9 none D G ad) (n : Nat)    (res : (Unit × St))  : ∀ (k : Nat) (v1 : Int32) (v2 : Int32)  (st : St), fX9_readNumber_L4 n k v1 v2 st = some res → At p l e (rmK 1) s m args below meth c D G ad (MQV D G ad below args s res) 3 st [(0, .ref (ad 15)), (1, .int v1), (2, .int v2)] 4 [] := by
  intro k
  induction k with
  | zero => intro v1 v2  st h; exact absurd h (by intro q; cases q)
  | succ k ih => intro v1 v2  st h; exact wX9_readNumber_s4 C n (fX9_readNumber_L4 n k)  v1 v2   st res ih h
def fX9_readNumber_s0 (n : Nat)    (st : St) : Option (Unit × St) := fX9_readNumber_L4 n n 0 0 st
set_option maxHeartbeats 4000000 in
set_option maxRecDepth 100000 in
theorem wX9_readNumber_s0 (C : Cx p s m args meth c cX9_readNumber 3 wsL_law RX9 none D G ad) (n : Nat)      (st : St) (res : (Unit × St))  (hf : fX9_readNumber_s0 n    st = some res) : At p l e (rmK 1) s m args below meth c D G ad (MQV D G ad below args s res) 3 st [(0, .ref (ad 15))] 0 [] := by
  obtain ⟨hx, hb, hml, hown, hts, hr, hlk, hK, had, hSt⟩ := id C
  intro H locs ls hl hP hS
  unfold fX9_readNumber_s0 at hf
  refine lv_iconst (v := 0) hx hb dX9_readNumber_0 (by decide) ?_
  refine lv_istore_n (lv' := [(1, .int 0), (0, .ref (ad 15))]) hx hb dX9_readNumber_1 rfl hl (by decide) rfl (fun ls hl => ?_)
  refine lv_iconst (v := 0) hx hb dX9_readNumber_2 (by decide) ?_
  refine lv_istore_n (lv' := [(2, .int 0), (1, .int 0), (0, .ref (ad 15))]) hx hb dX9_readNumber_3 rfl hl (by decide) rfl (fun ls hl => ?_)
  exact wX9_readNumber_L4 C n res n 0 0 st hf H locs ls (lv_sub hl [2, 1, 0] rfl) hP hS
def fX9_readNumber (n : Nat)   (st : St) : Option (Unit × St) := fX9_readNumber_s0 n st
theorem okX9_readNumber : okY yX9_readNumber RX9 0 := by unfold okY; decide +kernel
end
set_option maxRecDepth 100000 in
theorem kX9_readNumber (l : Launch) (D : va_G) (G : G3) (ad : Nat → Nat) (had : Adr ad) (n : Nat)    (st : St) (res : (Unit × St)) (hf : fX9_readNumber n   st = some res) {sz : Nat} : CtV l yX9_readNumber (wsU yX9_readNumber cX9_readNumber 3 none) (rmK 1) D G ad sz [.ref (ad 15)] st res := by
  refine Met.ofW (cc := cX9_readNumber) (maxL := 3) (ret := none) (by decide) rfl ?_
  intro p e s m args below meth c s₁ B hml hv
  obtain ⟨rfl, hsz, hP, hK, hSt⟩ := hv
  have hts := atoms_spec (ws := wsU yX9_readNumber cX9_readNumber 3 none) B.pre
  have C : Cx p s m _ meth c cX9_readNumber 3 wsL_law RX9 none D G ad := ⟨B.exec, B.bytes, hml, findClass_of_methodNamed B.named, fun w h => hts w (List.mem_cons_of_mem _ h), B.returns, B.notSynchronized, hK, had, hSt⟩
  subst hsz
  have hl := lv_entry ([.ref (ad 15)]) (n := 3) (Nat.le_of_ble_eq_true rfl)
  rw [lg_entry_eq]
  generalize (lg_sl ([.ref (ad 15)]) ++ List.replicate (3 - (lg_sl ([.ref (ad 15)])).length) Slot.unset).toArray = ls at hl ⊢
  exact wX9_readNumber_s0 C n     st res hf s.heap [] ls (lv_sub hl [0] rfl) hP va_S.rf
section
variable {p : Program} {l : Launch} {e : Env} {s : State} {m : MethodId} {args : Array Value} {below : List Frame} {meth : Method} {c : Code} {D : va_G} {G : G3} {ad : Nat → Nat}
def fX9_readWord_s138 (n : Nat)    (st : St) : Option (Int32 × St) := some ((-1), st)
set_option maxHeartbeats 4000000 in
set_option maxRecDepth 100000 in
theorem wX9_readWord_s138 (C : Cx p s m args meth c cX9_readWord 7 wsL_law RX9 (some .int) D G ad) (n : Nat)      (st : St) (res : (Int32 × St))  (hf : fX9_readWord_s138 n    st = some res) : At p l e (rmK 4) s m args below meth c D G ad (MQI D G ad below args s res) 7 st [] 138 [] := by
  obtain ⟨hx, hb, hml, hown, hts, hr, hlk, hK, had, hSt⟩ := id C
  intro H locs ls hl hP hS
  unfold fX9_readWord_s138 at hf
  refine lv_iconst (v := (-1)) hx hb dX9_readWord_138 (by decide) ?_
  exact g_iret hx hb hr hlk hP hS dX9_readWord_139 hf
def fX9_readWord_s128 (n : Nat)   (v3 : Int32) (st : St) : Option (Int32 × St) := fX9_readWord_s138 n (setI st 15 3 ((st.1 15 3) + v3))
set_option maxHeartbeats 4000000 in
set_option maxRecDepth 100000 in
theorem wX9_readWord_s128 (C : Cx p s m args meth c cX9_readWord 7 wsL_law RX9 (some .int) D G ad) (n : Nat)   (v3 : Int32)   (st : St) (res : (Int32 × St))  (hf : fX9_readWord_s128 n   v3 st = some res) : At p l e (rmK 4) s m args below meth c D G ad (MQI D G ad below args s res) 7 st [(0, .ref (ad 15)), (3, .int v3)] 128 [] := by
  obtain ⟨hx, hb, hml, hown, hts, hr, hlk, hK, had, hSt⟩ := id C
  intro H locs ls hl hP hS
  unfold fX9_readWord_s128 at hf
  refine lv_aload_n hx hb dX9_readWord_128 rfl (lv_at hl 0 rfl) ?_
  refine lv_dup hx hb dX9_readWord_129 rfl ?_
  refine g_getI hx hb hts inlX9 hown hK hP 15 ct_15 rfl 3 (by decide) (hts _ wm_26_1) rfl dX9_readWord_130 ?_
  refine lv_iload_n hx hb dX9_readWord_133 rfl (lv_at hl 1 rfl) ?_
  refine lv_iadd hx hb dX9_readWord_134 ?_
  refine g_putI hx hb hts inlX9 tyX9_ok nmX9 hown hK had hP hS 15 ct_15 rfl 3 (by decide) (hts _ wm_26_1) rfl rfl rfl rfl rfl dX9_readWord_135 (fun H locs hP hS => ?_)
  exact wX9_readWord_s138 C n (setI st 15 3 ((st.1 15 3) + v3)) res hf H locs ls (lv_sub hl [] rfl) hP hS
def fX9_readWord_s122 (n : Nat) (K12 : Int32 → Int32 → Int32 → Int32 → Int32 → St → Option (Int32 × St))  (v1 : Int32) (v2 : Int32) (v3 : Int32) (v4 : Int32) (v5 : Int32) (st : St) : Option (Int32 × St) := K12 v1 v2 v3 v4 (v5 + 1) st
set_option maxHeartbeats 4000000 in
set_option maxRecDepth 100000 in
theorem wX9_readWord_s122 (C : Cx p s m args meth c cX9_readWord 7 wsL_law RX9 (some .int) D G ad) (n : Nat) (K12 : Int32 → Int32 → Int32 → Int32 → Int32 → St → Option (Int32 × St))  (v1 : Int32) (v2 : Int32) (v3 : Int32) (v4 : Int32) (v5 : Int32)   (st : St) (res : (Int32 × St)) (hK12 : ∀ (v1 : Int32) (v2 : Int32) (v3 : Int32) (v4 : Int32) (v5 : Int32) (st : St), K12 v1 v2 v3 v4 v5 st = some res → At p l e (rmK 4) s m args below meth c D G ad (MQI D G ad below args s res) 7 st [(0, .ref (ad 15)), (1, .int v1), (2, .int v2), (3, .int v3), (4, .int v4), (5, .int v5)] 12 []) (hf : fX9_readWord_s122 n K12  v1 v2 v3 v4 v5 st = some res) : At p l e (rmK 4) s m args below meth c D G ad (MQI D G ad below args s res) 7 st [(0, .ref (ad 15)), (1, .int v1), (2, .int v2), (3, .int v3), (4, .int v4), (5, .int v5)] 122 [] := by
  obtain ⟨hx, hb, hml, hown, hts, hr, hlk, hK, had, hSt⟩ := id C
  intro H locs ls hl hP hS
  unfold fX9_readWord_s122 at hf
  refine lv_iinc (v := v5 + 1) (lv' := [(5, .int (v5 + 1)), (0, .ref (ad 15)), (1, .int v1), (2, .int v2), (3, .int v3), (4, .int v4)]) hx hb dX9_readWord_122 hl (k := 5) rfl rfl (by decide) rfl (fun ls hl => ?_)
  refine lv_goto (tgt := 12) hx hb dX9_readWord_125 (by decide) ?_
  exact hK12 v1 v2 v3 v4 (v5 + 1)  st hf H locs ls (lv_sub hl [1, 2, 3, 4, 5, 0] rfl) hP hS
def fX9_readWord_s119 (n : Nat) (K12 : Int32 → Int32 → Int32 → Int32 → Int32 → St → Option (Int32 × St))  (v1 : Int32) (v2 : Int32) (v3 : Int32) (v5 : Int32) (st : St) : Option (Int32 × St) := fX9_readWord_s122 n K12 v1 v2 v3 0 v5 st
set_option maxHeartbeats 4000000 in
set_option maxRecDepth 100000 in
theorem wX9_readWord_s119 (C : Cx p s m args meth c cX9_readWord 7 wsL_law RX9 (some .int) D G ad) (n : Nat) (K12 : Int32 → Int32 → Int32 → Int32 → Int32 → St → Option (Int32 × St))  (v1 : Int32) (v2 : Int32) (v3 : Int32) (v5 : Int32)   (st : St) (res : (Int32 × St)) (hK12 : ∀ (v1 : Int32) (v2 : Int32) (v3 : Int32) (v4 : Int32) (v5 : Int32) (st : St), K12 v1 v2 v3 v4 v5 st = some res → At p l e (rmK 4) s m args below meth c D G ad (MQI D G ad below args s res) 7 st [(0, .ref (ad 15)), (1, .int v1), (2, .int v2), (3, .int v3), (4, .int v4), (5, .int v5)] 12 []) (hf : fX9_readWord_s119 n K12  v1 v2 v3 v5 st = some res) : At p l e (rmK 4) s m args below meth c D G ad (MQI D G ad below args s res) 7 st [(0, .ref (ad 15)), (1, .int v1), (2, .int v2), (3, .int v3), (5, .int v5)] 119 [] := by
  obtain ⟨hx, hb, hml, hown, hts, hr, hlk, hK, had, hSt⟩ := id C
  intro H locs ls hl hP hS
  unfold fX9_readWord_s119 at hf
  refine lv_iconst (v := 0) hx hb dX9_readWord_119 (by decide) ?_
  refine lv_istore (lv' := [(4, .int 0), (0, .ref (ad 15)), (1, .int v1), (2, .int v2), (3, .int v3), (5, .int v5)]) hx hb dX9_readWord_120 hl (by decide) rfl (fun ls hl => ?_)
  exact wX9_readWord_s122 C n K12 v1 v2 v3 0 v5 st res hK12 hf H locs ls (lv_sub hl [1, 2, 3, 4, 0, 5] rfl) hP hS
def fX9_readWord_s107 (n : Nat) (K12 : Int32 → Int32 → Int32 → Int32 → Int32 → St → Option (Int32 × St))  (v1 : Int32) (v2 : Int32) (v3 : Int32) (v4 : Int32) (v5 : Int32) (st : St) : Option (Int32 × St) := fX9_readWord_s122 n K12 v1 (v2 + 1) (if v3 < (v2 + 1) then (v2 + 1) else v3) v4 v5 st
set_option maxHeartbeats 4000000 in
set_option maxRecDepth 100000 in
theorem wX9_readWord_s107 (C : Cx p s m args meth c cX9_readWord 7 wsL_law RX9 (some .int) D G ad) (n : Nat) (K12 : Int32 → Int32 → Int32 → Int32 → Int32 → St → Option (Int32 × St))  (v1 : Int32) (v2 : Int32) (v3 : Int32) (v4 : Int32) (v5 : Int32)   (st : St) (res : (Int32 × St)) (hK12 : ∀ (v1 : Int32) (v2 : Int32) (v3 : Int32) (v4 : Int32) (v5 : Int32) (st : St), K12 v1 v2 v3 v4 v5 st = some res → At p l e (rmK 4) s m args below meth c D G ad (MQI D G ad below args s res) 7 st [(0, .ref (ad 15)), (1, .int v1), (2, .int v2), (3, .int v3), (4, .int v4), (5, .int v5)] 12 []) (hf : fX9_readWord_s107 n K12  v1 v2 v3 v4 v5 st = some res) : At p l e (rmK 4) s m args below meth c D G ad (MQI D G ad below args s res) 7 st [(0, .ref (ad 15)), (1, .int v1), (2, .int v2), (3, .int v3), (4, .int v4), (5, .int v5)] 107 [] := by
  obtain ⟨hx, hb, hml, hown, hts, hr, hlk, hK, had, hSt⟩ := id C
  intro H locs ls hl hP hS
  unfold fX9_readWord_s107 at hf
  refine lv_iinc (v := v2 + 1) (lv' := [(2, .int (v2 + 1)), (0, .ref (ad 15)), (1, .int v1), (3, .int v3), (4, .int v4), (5, .int v5)]) hx hb dX9_readWord_107 hl (k := 2) rfl rfl (by decide) rfl (fun ls hl => ?_)
  refine lv_iload_n hx hb dX9_readWord_110 rfl (lv_at hl 3 rfl) ?_
  refine lv_iload_n hx hb dX9_readWord_111 rfl (lv_at hl 0 rfl) ?_
  refine va_mmax hx hb (hml.trans hl.1.symm) hown (hts _ wm_27_15) (hts _ wm_20_22) (hts _ wm_18_20) (hts _ wm_20_23) (Nat.le_of_ble_eq_true rfl) (Nat.le_of_ble_eq_true rfl) (Nat.zero_le _) (Nat.zero_le _) dX9_readWord_112 ?_
  refine lv_istore_n (lv' := [(3, .int (if v3 < (v2 + 1) then (v2 + 1) else v3)), (2, .int (v2 + 1)), (0, .ref (ad 15)), (1, .int v1), (4, .int v4), (5, .int v5)]) hx hb dX9_readWord_115 rfl hl (by decide) rfl (fun ls hl => ?_)
  refine lv_goto (tgt := 122) hx hb dX9_readWord_116 (by decide) ?_
  exact wX9_readWord_s122 C n K12 v1 (v2 + 1) (if v3 < (v2 + 1) then (v2 + 1) else v3) v4 v5 st res hK12 hf H locs ls (lv_sub hl [2, 3, 1, 0, 4, 5] rfl) hP hS
def fX9_readWord_s91 (n : Nat) (K12 : Int32 → Int32 → Int32 → Int32 → Int32 → St → Option (Int32 × St))  (v1 : Int32) (v2 : Int32) (v3 : Int32) (v4 : Int32) (v5 : Int32) (v6 : Int32) (st : St) : Option (Int32 × St) := if inb ((st.1 15 3) + v2) 120 = true then (if (st.1 16 ((st.1 15 3) + v2).toNatClampNeg) = v6 then fX9_readWord_s107 n K12 v1 v2 v3 v4 v5 st else fX9_readWord_s119 n K12 v1 v2 v3 v5 st) else none
set_option maxHeartbeats 4000000 in
set_option maxRecDepth 100000 in
theorem wX9_readWord_s91 (C : Cx p s m args meth c cX9_readWord 7 wsL_law RX9 (some .int) D G ad) (n : Nat) (K12 : Int32 → Int32 → Int32 → Int32 → Int32 → St → Option (Int32 × St))  (v1 : Int32) (v2 : Int32) (v3 : Int32) (v4 : Int32) (v5 : Int32) (v6 : Int32)   (st : St) (res : (Int32 × St)) (hK12 : ∀ (v1 : Int32) (v2 : Int32) (v3 : Int32) (v4 : Int32) (v5 : Int32) (st : St), K12 v1 v2 v3 v4 v5 st = some res → At p l e (rmK 4) s m args below meth c D G ad (MQI D G ad below args s res) 7 st [(0, .ref (ad 15)), (1, .int v1), (2, .int v2), (3, .int v3), (4, .int v4), (5, .int v5)] 12 []) (hf : fX9_readWord_s91 n K12  v1 v2 v3 v4 v5 v6 st = some res) : At p l e (rmK 4) s m args below meth c D G ad (MQI D G ad below args s res) 7 st [(0, .ref (ad 15)), (1, .int v1), (2, .int v2), (3, .int v3), (4, .int v4), (5, .int v5), (6, .int v6)] 91 [] := by
  obtain ⟨hx, hb, hml, hown, hts, hr, hlk, hK, had, hSt⟩ := id C
  intro H locs ls hl hP hS
  unfold fX9_readWord_s91 at hf
  refine lv_aload_n hx hb dX9_readWord_91 rfl (lv_at hl 0 rfl) ?_
  refine g_getR hx hb hts inlX9 hown hK hP 15 ct_15 rfl 0 (by decide) (hts _ wm_4_9) rfl dX9_readWord_92 ?_
  refine lv_aload_n hx hb dX9_readWord_95 rfl (lv_at hl 0 rfl) ?_
  refine g_getI hx hb hts inlX9 hown hK hP 15 ct_15 rfl 3 (by decide) (hts _ wm_26_1) rfl dX9_readWord_96 ?_
  refine lv_iload_n hx hb dX9_readWord_99 rfl (lv_at hl 2 rfl) ?_
  refine lv_iadd hx hb dX9_readWord_100 ?_
  obtain ⟨g1, hf⟩ := gd hf
  refine g_iald hx hb hK hP 16 ct_16 g1 dX9_readWord_101 ?_
  refine lv_iload hx hb dX9_readWord_102 (lv_at hl 6 rfl) ?_
  refine lv_icmp_ne (tgt := 119) hx hb dX9_readWord_104 (by decide) (fun q => ?_) (fun q => ?_)
  · exact wX9_readWord_s119 C n K12 v1 v2 v3 v5 st res hK12 (ie hf q) H locs ls (lv_sub hl [0, 1, 2, 3, 5] rfl) hP hS
  · exact wX9_readWord_s107 C n K12 v1 v2 v3 v4 v5 st res hK12 (it hf q) H locs ls (lv_sub hl [0, 1, 2, 3, 4, 5] rfl) hP hS
def fX9_readWord_s78 (n : Nat) (K12 : Int32 → Int32 → Int32 → Int32 → Int32 → St → Option (Int32 × St))  (v1 : Int32) (v2 : Int32) (v3 : Int32) (v4 : Int32) (v5 : Int32) (v6 : Int32) (st : St) : Option (Int32 × St) := if (st.1 15 2) ≤ ((st.1 15 3) + v2) then fX9_readWord_s119 n K12 v1 v2 v3 v5 st else fX9_readWord_s91 n K12 v1 v2 v3 v4 v5 v6 st
set_option maxHeartbeats 4000000 in
set_option maxRecDepth 100000 in
theorem wX9_readWord_s78 (C : Cx p s m args meth c cX9_readWord 7 wsL_law RX9 (some .int) D G ad) (n : Nat) (K12 : Int32 → Int32 → Int32 → Int32 → Int32 → St → Option (Int32 × St))  (v1 : Int32) (v2 : Int32) (v3 : Int32) (v4 : Int32) (v5 : Int32) (v6 : Int32)   (st : St) (res : (Int32 × St)) (hK12 : ∀ (v1 : Int32) (v2 : Int32) (v3 : Int32) (v4 : Int32) (v5 : Int32) (st : St), K12 v1 v2 v3 v4 v5 st = some res → At p l e (rmK 4) s m args below meth c D G ad (MQI D G ad below args s res) 7 st [(0, .ref (ad 15)), (1, .int v1), (2, .int v2), (3, .int v3), (4, .int v4), (5, .int v5)] 12 []) (hf : fX9_readWord_s78 n K12  v1 v2 v3 v4 v5 v6 st = some res) : At p l e (rmK 4) s m args below meth c D G ad (MQI D G ad below args s res) 7 st [(0, .ref (ad 15)), (1, .int v1), (2, .int v2), (3, .int v3), (4, .int v4), (5, .int v5), (6, .int v6)] 78 [] := by
  obtain ⟨hx, hb, hml, hown, hts, hr, hlk, hK, had, hSt⟩ := id C
  intro H locs ls hl hP hS
  unfold fX9_readWord_s78 at hf
  refine lv_aload_n hx hb dX9_readWord_78 rfl (lv_at hl 0 rfl) ?_
  refine g_getI hx hb hts inlX9 hown hK hP 15 ct_15 rfl 3 (by decide) (hts _ wm_26_1) rfl dX9_readWord_79 ?_
  refine lv_iload_n hx hb dX9_readWord_82 rfl (lv_at hl 2 rfl) ?_
  refine lv_iadd hx hb dX9_readWord_83 ?_
  refine lv_aload_n hx hb dX9_readWord_84 rfl (lv_at hl 0 rfl) ?_
  refine g_getI hx hb hts inlX9 hown hK hP 15 ct_15 rfl 2 (by decide) (hts _ wm_25_5) rfl dX9_readWord_85 ?_
  refine lv_icmp_ge (tgt := 119) hx hb dX9_readWord_88 (by decide) (fun q => ?_) (fun q => ?_)
  · exact wX9_readWord_s119 C n K12 v1 v2 v3 v5 st res hK12 (it hf q) H locs ls (lv_sub hl [0, 1, 2, 3, 5] rfl) hP hS
  · exact wX9_readWord_s91 C n K12 v1 v2 v3 v4 v5 v6 st res hK12 (ie hf q) H locs ls (lv_sub hl [0, 1, 2, 3, 4, 5, 6] rfl) hP hS
def fX9_readWord_s73 (n : Nat) (K12 : Int32 → Int32 → Int32 → Int32 → Int32 → St → Option (Int32 × St))  (v1 : Int32) (v2 : Int32) (v3 : Int32) (v4 : Int32) (v5 : Int32) (v6 : Int32) (st : St) : Option (Int32 × St) := if v4 = 0 then fX9_readWord_s119 n K12 v1 v2 v3 v5 st else fX9_readWord_s78 n K12 v1 v2 v3 v4 v5 v6 st
set_option maxHeartbeats 4000000 in
set_option maxRecDepth 100000 in
theorem wX9_readWord_s73 (C : Cx p s m args meth c cX9_readWord 7 wsL_law RX9 (some .int) D G ad) (n : Nat) (K12 : Int32 → Int32 → Int32 → Int32 → Int32 → St → Option (Int32 × St))  (v1 : Int32) (v2 : Int32) (v3 : Int32) (v4 : Int32) (v5 : Int32) (v6 : Int32)   (st : St) (res : (Int32 × St)) (hK12 : ∀ (v1 : Int32) (v2 : Int32) (v3 : Int32) (v4 : Int32) (v5 : Int32) (st : St), K12 v1 v2 v3 v4 v5 st = some res → At p l e (rmK 4) s m args below meth c D G ad (MQI D G ad below args s res) 7 st [(0, .ref (ad 15)), (1, .int v1), (2, .int v2), (3, .int v3), (4, .int v4), (5, .int v5)] 12 []) (hf : fX9_readWord_s73 n K12  v1 v2 v3 v4 v5 v6 st = some res) : At p l e (rmK 4) s m args below meth c D G ad (MQI D G ad below args s res) 7 st [(0, .ref (ad 15)), (1, .int v1), (2, .int v2), (3, .int v3), (4, .int v4), (5, .int v5), (6, .int v6)] 73 [] := by
  obtain ⟨hx, hb, hml, hown, hts, hr, hlk, hK, had, hSt⟩ := id C
  intro H locs ls hl hP hS
  unfold fX9_readWord_s73 at hf
  refine lv_iload hx hb dX9_readWord_73 (lv_at hl 4 rfl) ?_
  refine lv_if_eq (tgt := 119) hx hb dX9_readWord_75 (by decide) (fun q => ?_) (fun q => ?_)
  · exact wX9_readWord_s119 C n K12 v1 v2 v3 v5 st res hK12 (it hf q) H locs ls (lv_sub hl [0, 1, 2, 3, 5] rfl) hP hS
  · exact wX9_readWord_s78 C n K12 v1 v2 v3 v4 v5 v6 st res hK12 (ie hf q) H locs ls (lv_sub hl [0, 1, 2, 3, 4, 5, 6] rfl) hP hS
def fX9_readWord_s62 (n : Nat) (K12 : Int32 → Int32 → Int32 → Int32 → Int32 → St → Option (Int32 × St))  (v1 : Int32) (v3 : Int32) (v5 : Int32) (st : St) : Option (Int32 × St) := fX9_readWord_s122 n K12 (v1 + 1) 0 v3 1 v5 st
set_option maxHeartbeats 4000000 in
set_option maxRecDepth 100000 in
theorem wX9_readWord_s62 (C : Cx p s m args meth c cX9_readWord 7 wsL_law RX9 (some .int) D G ad) (n : Nat) (K12 : Int32 → Int32 → Int32 → Int32 → Int32 → St → Option (Int32 × St))  (v1 : Int32) (v3 : Int32) (v5 : Int32)   (st : St) (res : (Int32 × St)) (hK12 : ∀ (v1 : Int32) (v2 : Int32) (v3 : Int32) (v4 : Int32) (v5 : Int32) (st : St), K12 v1 v2 v3 v4 v5 st = some res → At p l e (rmK 4) s m args below meth c D G ad (MQI D G ad below args s res) 7 st [(0, .ref (ad 15)), (1, .int v1), (2, .int v2), (3, .int v3), (4, .int v4), (5, .int v5)] 12 []) (hf : fX9_readWord_s62 n K12  v1 v3 v5 st = some res) : At p l e (rmK 4) s m args below meth c D G ad (MQI D G ad below args s res) 7 st [(0, .ref (ad 15)), (1, .int v1), (3, .int v3), (5, .int v5)] 62 [] := by
  obtain ⟨hx, hb, hml, hown, hts, hr, hlk, hK, had, hSt⟩ := id C
  intro H locs ls hl hP hS
  unfold fX9_readWord_s62 at hf
  refine lv_iinc (v := v1 + 1) (lv' := [(1, .int (v1 + 1)), (0, .ref (ad 15)), (3, .int v3), (5, .int v5)]) hx hb dX9_readWord_62 hl (k := 1) rfl rfl (by decide) rfl (fun ls hl => ?_)
  refine lv_iconst (v := 0) hx hb dX9_readWord_65 (by decide) ?_
  refine lv_istore_n (lv' := [(2, .int 0), (1, .int (v1 + 1)), (0, .ref (ad 15)), (3, .int v3), (5, .int v5)]) hx hb dX9_readWord_66 rfl hl (by decide) rfl (fun ls hl => ?_)
  refine lv_iconst (v := 1) hx hb dX9_readWord_67 (by decide) ?_
  refine lv_istore (lv' := [(4, .int 1), (2, .int 0), (1, .int (v1 + 1)), (0, .ref (ad 15)), (3, .int v3), (5, .int v5)]) hx hb dX9_readWord_68 hl (by decide) rfl (fun ls hl => ?_)
  refine lv_goto (tgt := 122) hx hb dX9_readWord_70 (by decide) ?_
  exact wX9_readWord_s122 C n K12 (v1 + 1) 0 v3 1 v5 st res hK12 hf H locs ls (lv_sub hl [3, 2, 1, 4, 0, 5] rfl) hP hS
def fX9_readWord_s55 (n : Nat) (K12 : Int32 → Int32 → Int32 → Int32 → Int32 → St → Option (Int32 × St))  (v1 : Int32) (v2 : Int32) (v3 : Int32) (v4 : Int32) (v5 : Int32) (v6 : Int32) (st : St) : Option (Int32 × St) := if v6 = 32 then fX9_readWord_s62 n K12 v1 v3 v5 st else fX9_readWord_s73 n K12 v1 v2 v3 v4 v5 v6 st
set_option maxHeartbeats 4000000 in
set_option maxRecDepth 100000 in
theorem wX9_readWord_s55 (C : Cx p s m args meth c cX9_readWord 7 wsL_law RX9 (some .int) D G ad) (n : Nat) (K12 : Int32 → Int32 → Int32 → Int32 → Int32 → St → Option (Int32 × St))  (v1 : Int32) (v2 : Int32) (v3 : Int32) (v4 : Int32) (v5 : Int32) (v6 : Int32)   (st : St) (res : (Int32 × St)) (hK12 : ∀ (v1 : Int32) (v2 : Int32) (v3 : Int32) (v4 : Int32) (v5 : Int32) (st : St), K12 v1 v2 v3 v4 v5 st = some res → At p l e (rmK 4) s m args below meth c D G ad (MQI D G ad below args s res) 7 st [(0, .ref (ad 15)), (1, .int v1), (2, .int v2), (3, .int v3), (4, .int v4), (5, .int v5)] 12 []) (hf : fX9_readWord_s55 n K12  v1 v2 v3 v4 v5 v6 st = some res) : At p l e (rmK 4) s m args below meth c D G ad (MQI D G ad below args s res) 7 st [(0, .ref (ad 15)), (1, .int v1), (2, .int v2), (3, .int v3), (4, .int v4), (5, .int v5), (6, .int v6)] 55 [] := by
  obtain ⟨hx, hb, hml, hown, hts, hr, hlk, hK, had, hSt⟩ := id C
  intro H locs ls hl hP hS
  unfold fX9_readWord_s55 at hf
  refine lv_iload hx hb dX9_readWord_55 (lv_at hl 6 rfl) ?_
  refine lv_bipush (v := 32) hx hb dX9_readWord_57 (by decide) ?_
  refine lv_icmp_ne (tgt := 73) hx hb dX9_readWord_59 (by decide) (fun q => ?_) (fun q => ?_)
  · exact wX9_readWord_s73 C n K12 v1 v2 v3 v4 v5 v6 st res hK12 (ie hf q) H locs ls (lv_sub hl [0, 1, 2, 3, 4, 5, 6] rfl) hP hS
  · exact wX9_readWord_s62 C n K12 v1 v3 v5 st res hK12 (it hf q) H locs ls (lv_sub hl [0, 1, 3, 5] rfl) hP hS
def fX9_readWord_s53 (n : Nat)   (v1 : Int32) (st : St) : Option (Int32 × St) := some (v1, st)
set_option maxHeartbeats 4000000 in
set_option maxRecDepth 100000 in
theorem wX9_readWord_s53 (C : Cx p s m args meth c cX9_readWord 7 wsL_law RX9 (some .int) D G ad) (n : Nat)   (v1 : Int32)   (st : St) (res : (Int32 × St))  (hf : fX9_readWord_s53 n   v1 st = some res) : At p l e (rmK 4) s m args below meth c D G ad (MQI D G ad below args s res) 7 st [(1, .int v1)] 53 [] := by
  obtain ⟨hx, hb, hml, hown, hts, hr, hlk, hK, had, hSt⟩ := id C
  intro H locs ls hl hP hS
  unfold fX9_readWord_s53 at hf
  refine lv_iload_n hx hb dX9_readWord_53 rfl (lv_at hl 0 rfl) ?_
  exact g_iret hx hb hr hlk hP hS dX9_readWord_54 hf
def fX9_readWord_s43 (n : Nat)   (v1 : Int32) (v2 : Int32) (st : St) : Option (Int32 × St) := fX9_readWord_s53 n v1 (setI st 15 3 ((st.1 15 3) + v2))
set_option maxHeartbeats 4000000 in
set_option maxRecDepth 100000 in
theorem wX9_readWord_s43 (C : Cx p s m args meth c cX9_readWord 7 wsL_law RX9 (some .int) D G ad) (n : Nat)   (v1 : Int32) (v2 : Int32)   (st : St) (res : (Int32 × St))  (hf : fX9_readWord_s43 n   v1 v2 st = some res) : At p l e (rmK 4) s m args below meth c D G ad (MQI D G ad below args s res) 7 st [(0, .ref (ad 15)), (1, .int v1), (2, .int v2)] 43 [] := by
  obtain ⟨hx, hb, hml, hown, hts, hr, hlk, hK, had, hSt⟩ := id C
  intro H locs ls hl hP hS
  unfold fX9_readWord_s43 at hf
  refine lv_aload_n hx hb dX9_readWord_43 rfl (lv_at hl 0 rfl) ?_
  refine lv_dup hx hb dX9_readWord_44 rfl ?_
  refine g_getI hx hb hts inlX9 hown hK hP 15 ct_15 rfl 3 (by decide) (hts _ wm_26_1) rfl dX9_readWord_45 ?_
  refine lv_iload_n hx hb dX9_readWord_48 rfl (lv_at hl 2 rfl) ?_
  refine lv_iadd hx hb dX9_readWord_49 ?_
  refine g_putI hx hb hts inlX9 tyX9_ok nmX9 hown hK had hP hS 15 ct_15 rfl 3 (by decide) (hts _ wm_26_1) rfl rfl rfl rfl rfl dX9_readWord_50 (fun H locs hP hS => ?_)
  exact wX9_readWord_s53 C n v1 (setI st 15 3 ((st.1 15 3) + v2)) res hf H locs ls (lv_sub hl [1] rfl) hP hS
def fX9_readWord_s38 (n : Nat) (K12 : Int32 → Int32 → Int32 → Int32 → Int32 → St → Option (Int32 × St))  (v1 : Int32) (v2 : Int32) (v3 : Int32) (v4 : Int32) (v5 : Int32) (v6 : Int32) (st : St) : Option (Int32 × St) := if v4 = 0 then fX9_readWord_s55 n K12 v1 v2 v3 v4 v5 v6 st else fX9_readWord_s43 n v1 v2 st
set_option maxHeartbeats 4000000 in
set_option maxRecDepth 100000 in
theorem wX9_readWord_s38 (C : Cx p s m args meth c cX9_readWord 7 wsL_law RX9 (some .int) D G ad) (n : Nat) (K12 : Int32 → Int32 → Int32 → Int32 → Int32 → St → Option (Int32 × St))  (v1 : Int32) (v2 : Int32) (v3 : Int32) (v4 : Int32) (v5 : Int32) (v6 : Int32)   (st : St) (res : (Int32 × St)) (hK12 : ∀ (v1 : Int32) (v2 : Int32) (v3 : Int32) (v4 : Int32) (v5 : Int32) (st : St), K12 v1 v2 v3 v4 v5 st = some res → At p l e (rmK 4) s m args below meth c D G ad (MQI D G ad below args s res) 7 st [(0, .ref (ad 15)), (1, .int v1), (2, .int v2), (3, .int v3), (4, .int v4), (5, .int v5)] 12 []) (hf : fX9_readWord_s38 n K12  v1 v2 v3 v4 v5 v6 st = some res) : At p l e (rmK 4) s m args below meth c D G ad (MQI D G ad below args s res) 7 st [(0, .ref (ad 15)), (1, .int v1), (2, .int v2), (3, .int v3), (4, .int v4), (5, .int v5), (6, .int v6)] 38 [] := by
  obtain ⟨hx, hb, hml, hown, hts, hr, hlk, hK, had, hSt⟩ := id C
  intro H locs ls hl hP hS
  unfold fX9_readWord_s38 at hf
  refine lv_iload hx hb dX9_readWord_38 (lv_at hl 4 rfl) ?_
  refine lv_if_eq (tgt := 55) hx hb dX9_readWord_40 (by decide) (fun q => ?_) (fun q => ?_)
  · exact wX9_readWord_s55 C n K12 v1 v2 v3 v4 v5 v6 st res hK12 (it hf q) H locs ls (lv_sub hl [0, 1, 2, 3, 4, 5, 6] rfl) hP hS
  · exact wX9_readWord_s43 C n v1 v2 st res (ie hf q) H locs ls (lv_sub hl [0, 1, 2] rfl) hP hS
def fX9_readWord_s29 (n : Nat) (K12 : Int32 → Int32 → Int32 → Int32 → Int32 → St → Option (Int32 × St))  (v1 : Int32) (v2 : Int32) (v3 : Int32) (v4 : Int32) (v5 : Int32) (k0 : Int32) (st : St) : Option (Int32 × St) := if k0 = 32 then fX9_readWord_s38 n K12 v1 v2 v3 v4 v5 k0 st else fX9_readWord_s55 n K12 v1 v2 v3 v4 v5 k0 st
set_option maxHeartbeats 4000000 in
set_option maxRecDepth 100000 in
theorem wX9_readWord_s29 (C : Cx p s m args meth c cX9_readWord 7 wsL_law RX9 (some .int) D G ad) (n : Nat) (K12 : Int32 → Int32 → Int32 → Int32 → Int32 → St → Option (Int32 × St))  (v1 : Int32) (v2 : Int32) (v3 : Int32) (v4 : Int32) (v5 : Int32) (k0 : Int32)   (st : St) (res : (Int32 × St)) (hK12 : ∀ (v1 : Int32) (v2 : Int32) (v3 : Int32) (v4 : Int32) (v5 : Int32) (st : St), K12 v1 v2 v3 v4 v5 st = some res → At p l e (rmK 4) s m args below meth c D G ad (MQI D G ad below args s res) 7 st [(0, .ref (ad 15)), (1, .int v1), (2, .int v2), (3, .int v3), (4, .int v4), (5, .int v5)] 12 []) (hf : fX9_readWord_s29 n K12  v1 v2 v3 v4 v5 k0 st = some res) : At p l e (rmK 4) s m args below meth c D G ad (MQI D G ad below args s res) 7 st [(0, .ref (ad 15)), (1, .int v1), (2, .int v2), (3, .int v3), (4, .int v4), (5, .int v5)] 29 [.int k0] := by
  obtain ⟨hx, hb, hml, hown, hts, hr, hlk, hK, had, hSt⟩ := id C
  intro H locs ls hl hP hS
  unfold fX9_readWord_s29 at hf
  refine lv_istore (lv' := [(6, .int k0), (0, .ref (ad 15)), (1, .int v1), (2, .int v2), (3, .int v3), (4, .int v4), (5, .int v5)]) hx hb dX9_readWord_29 hl (by decide) rfl (fun ls hl => ?_)
  refine lv_iload hx hb dX9_readWord_31 (lv_at hl 0 rfl) ?_
  refine lv_bipush (v := 32) hx hb dX9_readWord_33 (by decide) ?_
  refine lv_icmp_ne (tgt := 55) hx hb dX9_readWord_35 (by decide) (fun q => ?_) (fun q => ?_)
  · exact wX9_readWord_s55 C n K12 v1 v2 v3 v4 v5 k0 st res hK12 (ie hf q) H locs ls (lv_sub hl [1, 2, 3, 4, 5, 6, 0] rfl) hP hS
  · exact wX9_readWord_s38 C n K12 v1 v2 v3 v4 v5 k0 st res hK12 (it hf q) H locs ls (lv_sub hl [1, 2, 3, 4, 5, 6, 0] rfl) hP hS
def fX9_readWord_s22 (n : Nat) (K12 : Int32 → Int32 → Int32 → Int32 → Int32 → St → Option (Int32 × St))  (v1 : Int32) (v2 : Int32) (v3 : Int32) (v4 : Int32) (v5 : Int32) (st : St) : Option (Int32 × St) := (fJ0_charAt_5068e n v5 st).bind (fun q => fX9_readWord_s29 n K12 v1 v2 v3 v4 v5 q.1 q.2)
set_option maxHeartbeats 4000000 in
set_option maxRecDepth 100000 in
theorem wX9_readWord_s22 (C : Cx p s m args meth c cX9_readWord 7 wsL_law RX9 (some .int) D G ad) (n : Nat) (K12 : Int32 → Int32 → Int32 → Int32 → Int32 → St → Option (Int32 × St))  (v1 : Int32) (v2 : Int32) (v3 : Int32) (v4 : Int32) (v5 : Int32)   (st : St) (res : (Int32 × St)) (hK12 : ∀ (v1 : Int32) (v2 : Int32) (v3 : Int32) (v4 : Int32) (v5 : Int32) (st : St), K12 v1 v2 v3 v4 v5 st = some res → At p l e (rmK 4) s m args below meth c D G ad (MQI D G ad below args s res) 7 st [(0, .ref (ad 15)), (1, .int v1), (2, .int v2), (3, .int v3), (4, .int v4), (5, .int v5)] 12 []) (hf : fX9_readWord_s22 n K12  v1 v2 v3 v4 v5 st = some res) : At p l e (rmK 4) s m args below meth c D G ad (MQI D G ad below args s res) 7 st [(0, .ref (ad 15)), (1, .int v1), (2, .int v2), (3, .int v3), (4, .int v4), (5, .int v5)] 22 [] := by
  obtain ⟨hx, hb, hml, hown, hts, hr, hlk, hK, had, hSt⟩ := id C
  intro H locs ls hl hP hS
  unfold fX9_readWord_s22 at hf
  refine va_ldcS hx hb hown hSt.1 dX9_readWord_22 ?_
  refine lv_iload hx hb dX9_readWord_24 (lv_at hl 5 rfl) ?_
  obtain ⟨q, hq, hf⟩ := bd hf
  refine gcK_i (k := 3) (As := [.int v5]) (rest := []) hx hb hml hown hts hK hSt hP hS hl.1 (goodV wm_28_4 wm_28_5 wm_28_6 wm_27_19 wm_28_7) okJ0_charAt_5068e (Nat.le_of_ble_eq_true rfl) (Nat.le_of_ble_eq_true rfl) rfl rfl (Nat.le_of_ble_eq_true rfl) dX9_readWord_26 (kJ0_charAt_5068e l D G ad had n  v5 st q hq) (fun H locs hP hS => ?_)
  exact wX9_readWord_s29 C n K12 v1 v2 v3 v4 v5 q.1 q.2 res hK12 hf H locs ls (lv_sub hl [0, 1, 2, 3, 4, 5] rfl) hP hS
def fX9_readWord_s19 (n : Nat) (K12 : Int32 → Int32 → Int32 → Int32 → Int32 → St → Option (Int32 × St))  (v1 : Int32) (v2 : Int32) (v3 : Int32) (v4 : Int32) (v5 : Int32) (k0 : Int32) (k1 : Int32) (st : St) : Option (Int32 × St) := if k1 ≤ k0 then fX9_readWord_s128 n v3 st else fX9_readWord_s22 n K12 v1 v2 v3 v4 v5 st
set_option maxHeartbeats 4000000 in
set_option maxRecDepth 100000 in
theorem wX9_readWord_s19 (C : Cx p s m args meth c cX9_readWord 7 wsL_law RX9 (some .int) D G ad) (n : Nat) (K12 : Int32 → Int32 → Int32 → Int32 → Int32 → St → Option (Int32 × St))  (v1 : Int32) (v2 : Int32) (v3 : Int32) (v4 : Int32) (v5 : Int32) (k0 : Int32) (k1 : Int32)   (st : St) (res : (Int32 × St)) (hK12 : ∀ (v1 : Int32) (v2 : Int32) (v3 : Int32) (v4 : Int32) (v5 : Int32) (st : St), K12 v1 v2 v3 v4 v5 st = some res → At p l e (rmK 4) s m args below meth c D G ad (MQI D G ad below args s res) 7 st [(0, .ref (ad 15)), (1, .int v1), (2, .int v2), (3, .int v3), (4, .int v4), (5, .int v5)] 12 []) (hf : fX9_readWord_s19 n K12  v1 v2 v3 v4 v5 k0 k1 st = some res) : At p l e (rmK 4) s m args below meth c D G ad (MQI D G ad below args s res) 7 st [(0, .ref (ad 15)), (1, .int v1), (2, .int v2), (3, .int v3), (4, .int v4), (5, .int v5)] 19 [.int k1, .int k0] := by
  obtain ⟨hx, hb, hml, hown, hts, hr, hlk, hK, had, hSt⟩ := id C
  intro H locs ls hl hP hS
  unfold fX9_readWord_s19 at hf
  refine lv_icmp_ge (tgt := 128) hx hb dX9_readWord_19 (by decide) (fun q => ?_) (fun q => ?_)
  · exact wX9_readWord_s128 C n v3 st res (it hf q) H locs ls (lv_sub hl [0, 3] rfl) hP hS
  · exact wX9_readWord_s22 C n K12 v1 v2 v3 v4 v5 st res hK12 (ie hf q) H locs ls (lv_sub hl [0, 1, 2, 3, 4, 5] rfl) hP hS
def fX9_readWord_s12 (n : Nat) (K12 : Int32 → Int32 → Int32 → Int32 → Int32 → St → Option (Int32 × St))  (v1 : Int32) (v2 : Int32) (v3 : Int32) (v4 : Int32) (v5 : Int32) (st : St) : Option (Int32 × St) := (fJ0_length_8abf5 n st).bind (fun q => fX9_readWord_s19 n K12 v1 v2 v3 v4 v5 v5 q.1 q.2)
set_option maxHeartbeats 4000000 in
set_option maxRecDepth 100000 in
theorem wX9_readWord_s12 (C : Cx p s m args meth c cX9_readWord 7 wsL_law RX9 (some .int) D G ad) (n : Nat) (K12 : Int32 → Int32 → Int32 → Int32 → Int32 → St → Option (Int32 × St))  (v1 : Int32) (v2 : Int32) (v3 : Int32) (v4 : Int32) (v5 : Int32)   (st : St) (res : (Int32 × St)) (hK12 : ∀ (v1 : Int32) (v2 : Int32) (v3 : Int32) (v4 : Int32) (v5 : Int32) (st : St), K12 v1 v2 v3 v4 v5 st = some res → At p l e (rmK 4) s m args below meth c D G ad (MQI D G ad below args s res) 7 st [(0, .ref (ad 15)), (1, .int v1), (2, .int v2), (3, .int v3), (4, .int v4), (5, .int v5)] 12 []) (hf : fX9_readWord_s12 n K12  v1 v2 v3 v4 v5 st = some res) : At p l e (rmK 4) s m args below meth c D G ad (MQI D G ad below args s res) 7 st [(0, .ref (ad 15)), (1, .int v1), (2, .int v2), (3, .int v3), (4, .int v4), (5, .int v5)] 12 [] := by
  obtain ⟨hx, hb, hml, hown, hts, hr, hlk, hK, had, hSt⟩ := id C
  intro H locs ls hl hP hS
  unfold fX9_readWord_s12 at hf
  refine lv_iload hx hb dX9_readWord_12 (lv_at hl 5 rfl) ?_
  refine va_ldcS hx hb hown hSt.1 dX9_readWord_14 ?_
  obtain ⟨q, hq, hf⟩ := bd hf
  refine gcK_i (k := 1) (As := []) (rest := [.int v5]) hx hb hml hown hts hK hSt hP hS hl.1 (goodV wm_27_16 wm_27_17 wm_27_18 wm_27_19 wm_27_20) okJ0_length_8abf5 (Nat.le_of_ble_eq_true rfl) (Nat.le_of_ble_eq_true rfl) rfl rfl (Nat.le_of_ble_eq_true rfl) dX9_readWord_16 (kJ0_length_8abf5 l D G ad had n   st q hq) (fun H locs hP hS => ?_)
  exact wX9_readWord_s19 C n K12 v1 v2 v3 v4 v5 v5 q.1 q.2 res hK12 hf H locs ls (lv_sub hl [0, 1, 2, 3, 4, 5] rfl) hP hS
def fX9_readWord_L12 (n : Nat)   : Nat → Int32 → Int32 → Int32 → Int32 → Int32 → St → Option (Int32 × St)
  | 0, _, _, _, _, _, _ => none
  | k + 1, v1, v2, v3, v4, v5, st => fX9_readWord_s12 n (fX9_readWord_L12 n k)  v1 v2 v3 v4 v5 st
theorem wX9_readWord_L12 (C : Cx p s m args meth c cX9_readWord 7 wsL_law RX9 (some .int) D G ad) (n : Nat)    (res : (Int32 × St))  : ∀ (k : Nat) (v1 : Int32) (v2 : Int32) (v3 : Int32) (v4 : Int32) (v5 : Int32)  (st : St), fX9_readWord_L12 n k v1 v2 v3 v4 v5 st = some res → At p l e (rmK 4) s m args below meth c D G ad (MQI D G ad below args s res) 7 st [(0, .ref (ad 15)), (1, .int v1), (2, .int v2), (3, .int v3), (4, .int v4), (5, .int v5)] 12 [] := by
  intro k
  induction k with
  | zero => intro v1 v2 v3 v4 v5  st h; exact absurd h (by intro q; cases q)
  | succ k ih => intro v1 v2 v3 v4 v5  st h; exact wX9_readWord_s12 C n (fX9_readWord_L12 n k)  v1 v2 v3 v4 v5   st res ih h
def fX9_readWord_s0 (n : Nat)    (st : St) : Option (Int32 × St) := fX9_readWord_L12 n n 0 0 0 1 0 st
set_option maxHeartbeats 4000000 in
set_option maxRecDepth 100000 in
theorem wX9_readWord_s0 (C : Cx p s m args meth c cX9_readWord 7 wsL_law RX9 (some .int) D G ad) (n : Nat)      (st : St) (res : (Int32 × St))  (hf : fX9_readWord_s0 n    st = some res) : At p l e (rmK 4) s m args below meth c D G ad (MQI D G ad below args s res) 7 st [(0, .ref (ad 15))] 0 [] := by
  obtain ⟨hx, hb, hml, hown, hts, hr, hlk, hK, had, hSt⟩ := id C
  intro H locs ls hl hP hS
  unfold fX9_readWord_s0 at hf
  refine lv_iconst (v := 0) hx hb dX9_readWord_0 (by decide) ?_
  refine lv_istore_n (lv' := [(1, .int 0), (0, .ref (ad 15))]) hx hb dX9_readWord_1 rfl hl (by decide) rfl (fun ls hl => ?_)
  refine lv_iconst (v := 0) hx hb dX9_readWord_2 (by decide) ?_
  refine lv_istore_n (lv' := [(2, .int 0), (1, .int 0), (0, .ref (ad 15))]) hx hb dX9_readWord_3 rfl hl (by decide) rfl (fun ls hl => ?_)
  refine lv_iconst (v := 0) hx hb dX9_readWord_4 (by decide) ?_
  refine lv_istore_n (lv' := [(3, .int 0), (2, .int 0), (1, .int 0), (0, .ref (ad 15))]) hx hb dX9_readWord_5 rfl hl (by decide) rfl (fun ls hl => ?_)
  refine lv_iconst (v := 1) hx hb dX9_readWord_6 (by decide) ?_
  refine lv_istore (lv' := [(4, .int 1), (3, .int 0), (2, .int 0), (1, .int 0), (0, .ref (ad 15))]) hx hb dX9_readWord_7 hl (by decide) rfl (fun ls hl => ?_)
  refine lv_iconst (v := 0) hx hb dX9_readWord_9 (by decide) ?_
  refine lv_istore (lv' := [(5, .int 0), (4, .int 1), (3, .int 0), (2, .int 0), (1, .int 0), (0, .ref (ad 15))]) hx hb dX9_readWord_10 hl (by decide) rfl (fun ls hl => ?_)
  exact wX9_readWord_L12 C n res n 0 0 0 1 0 st hf H locs ls (lv_sub hl [5, 4, 3, 2, 1, 0] rfl) hP hS
def fX9_readWord (n : Nat)   (st : St) : Option (Int32 × St) := fX9_readWord_s0 n st
theorem okX9_readWord : okY yX9_readWord RX9 0 := by unfold okY; decide +kernel
end
set_option maxRecDepth 100000 in
theorem kX9_readWord (l : Launch) (D : va_G) (G : G3) (ad : Nat → Nat) (had : Adr ad) (n : Nat)    (st : St) (res : (Int32 × St)) (hf : fX9_readWord n   st = some res) {sz : Nat} : CtI l yX9_readWord (wsU yX9_readWord cX9_readWord 7 (some .int)) (rmK 4) D G ad sz [.ref (ad 15)] st res := by
  refine Met.ofW (cc := cX9_readWord) (maxL := 7) (ret := (some .int)) (by decide) rfl ?_
  intro p e s m args below meth c s₁ B hml hv
  obtain ⟨rfl, hsz, hP, hK, hSt⟩ := hv
  have hts := atoms_spec (ws := wsU yX9_readWord cX9_readWord 7 (some .int)) B.pre
  have C : Cx p s m _ meth c cX9_readWord 7 wsL_law RX9 (some .int) D G ad := ⟨B.exec, B.bytes, hml, findClass_of_methodNamed B.named, fun w h => hts w (List.mem_cons_of_mem _ h), B.returns, B.notSynchronized, hK, had, hSt⟩
  subst hsz
  have hl := lv_entry ([.ref (ad 15)]) (n := 7) (Nat.le_of_ble_eq_true rfl)
  rw [lg_entry_eq]
  generalize (lg_sl ([.ref (ad 15)]) ++ List.replicate (7 - (lg_sl ([.ref (ad 15)])).length) Slot.unset).toArray = ls at hl ⊢
  exact wX9_readWord_s0 C n     st res hf s.heap [] ls (lv_sub hl [0] rfl) hP va_S.rf
theorem okX9_readSum : okY yX9_readSum RX9 1 := by unfold okY; decide +kernel
section
variable {p : Program} {l : Launch} {e : Env} {s : State} {m : MethodId} {args : Array Value} {below : List Frame} {meth : Method} {c : Code} {D : va_G} {G : G3} {ad : Nat → Nat}
def fX9_readAtom_s150 (n : Nat)  (FS : Int32 → St → Option (Int32 × St)) (v3 : Int32) (st : St) : Option (Int32 × St) := if zb v3 = true then (some (v3, st)) else none
set_option maxHeartbeats 4000000 in
set_option maxRecDepth 100000 in
theorem wX9_readAtom_s150 (C : Cx p s m args meth c cX9_readAtom 4 wsL_law RX9 (some .boolean) D G ad) (n : Nat)  (FS : Int32 → St → Option (Int32 × St)) (v3 : Int32) (kk : Nat) (hkk : 8 ≤ kk) (hFS : ∀ (a : Int32) (st : St) (q : Int32 × St) (sz : Nat), FS a st = some q → CtI l yX9_readSum (wsU yX9_readSum cX9_readSum 5 (some .boolean)) (rmK kk) D G ad sz [.ref (ad 15), .int a] st q)  (st : St) (res : (Int32 × St))  (hf : fX9_readAtom_s150 n  FS v3 st = some res) : At p l e (rmK (kk + 1)) s m args below meth c D G ad (MQI D G ad below args s res) 4 st [(3, .int v3)] 150 [] := by
  obtain ⟨hx, hb, hml, hown, hts, hr, hlk, hK, had, hSt⟩ := id C
  intro H locs ls hl hP hS
  unfold fX9_readAtom_s150 at hf
  refine lv_iload_n hx hb dX9_readAtom_150 rfl (lv_at hl 0 rfl) ?_
  obtain ⟨gz, hf⟩ := gd hf
  exact g_zret hx hb hr hlk hP hS (zb_of gz) dX9_readAtom_151 hf
def fX9_readAtom_s147 (n : Nat)  (FS : Int32 → St → Option (Int32 × St)) (v3 : Int32) (k1 : Int32) (st : St) : Option (Int32 × St) := (fX9_emit n k1 st).bind (fun q => fX9_readAtom_s150 n FS v3 q.2)
set_option maxHeartbeats 4000000 in
set_option maxRecDepth 100000 in
theorem wX9_readAtom_s147 (C : Cx p s m args meth c cX9_readAtom 4 wsL_law RX9 (some .boolean) D G ad) (n : Nat)  (FS : Int32 → St → Option (Int32 × St)) (v3 : Int32) (k1 : Int32) (kk : Nat) (hkk : 8 ≤ kk) (hFS : ∀ (a : Int32) (st : St) (q : Int32 × St) (sz : Nat), FS a st = some q → CtI l yX9_readSum (wsU yX9_readSum cX9_readSum 5 (some .boolean)) (rmK kk) D G ad sz [.ref (ad 15), .int a] st q)  (st : St) (res : (Int32 × St))  (hf : fX9_readAtom_s147 n  FS v3 k1 st = some res) : At p l e (rmK (kk + 1)) s m args below meth c D G ad (MQI D G ad below args s res) 4 st [(3, .int v3)] 147 [.int k1, .ref (ad 15)] := by
  obtain ⟨hx, hb, hml, hown, hts, hr, hlk, hK, had, hSt⟩ := id C
  intro H locs ls hl hP hS
  unfold fX9_readAtom_s147 at hf
  obtain ⟨q, hq, hf⟩ := bd hf
  refine gcV_v (k := 0) (o := 15) (As := [.int k1]) (rest := []) hx hb hml hown hts hK hSt hP hS hl.1 (goodV wm_26_14 wm_26_15 wm_26_16 wm_1_23 wm_26_17) okX9_emit ct_15 rfl rfl (by omega) (Nat.le_of_ble_eq_true rfl) rfl rfl (Nat.le_of_ble_eq_true rfl) dX9_readAtom_147 (kX9_emit l D G ad had n  k1 st q hq) (fun H locs hP hS => ?_)
  exact wX9_readAtom_s150 C n FS v3 kk hkk hFS q.2 res hf H locs ls (lv_sub hl [0] rfl) hP hS
def fX9_readAtom_s145 (n : Nat)  (FS : Int32 → St → Option (Int32 × St)) (v3 : Int32) (st : St) : Option (Int32 × St) := fX9_readAtom_s147 n FS v3 (-13) st
set_option maxHeartbeats 4000000 in
set_option maxRecDepth 100000 in
theorem wX9_readAtom_s145 (C : Cx p s m args meth c cX9_readAtom 4 wsL_law RX9 (some .boolean) D G ad) (n : Nat)  (FS : Int32 → St → Option (Int32 × St)) (v3 : Int32) (kk : Nat) (hkk : 8 ≤ kk) (hFS : ∀ (a : Int32) (st : St) (q : Int32 × St) (sz : Nat), FS a st = some q → CtI l yX9_readSum (wsU yX9_readSum cX9_readSum 5 (some .boolean)) (rmK kk) D G ad sz [.ref (ad 15), .int a] st q)  (st : St) (res : (Int32 × St))  (hf : fX9_readAtom_s145 n  FS v3 st = some res) : At p l e (rmK (kk + 1)) s m args below meth c D G ad (MQI D G ad below args s res) 4 st [(3, .int v3)] 145 [.ref (ad 15)] := by
  obtain ⟨hx, hb, hml, hown, hts, hr, hlk, hK, had, hSt⟩ := id C
  intro H locs ls hl hP hS
  unfold fX9_readAtom_s145 at hf
  refine lv_bipush (v := (-13)) hx hb dX9_readAtom_145 (by decide) ?_
  exact wX9_readAtom_s147 C n FS v3 (-13) kk hkk hFS st res hf H locs ls (lv_sub hl [0] rfl) hP hS
def fX9_readAtom_s140 (n : Nat)  (FS : Int32 → St → Option (Int32 × St)) (v3 : Int32) (st : St) : Option (Int32 × St) := fX9_readAtom_s147 n FS v3 (-12) st
set_option maxHeartbeats 4000000 in
set_option maxRecDepth 100000 in
theorem wX9_readAtom_s140 (C : Cx p s m args meth c cX9_readAtom 4 wsL_law RX9 (some .boolean) D G ad) (n : Nat)  (FS : Int32 → St → Option (Int32 × St)) (v3 : Int32) (kk : Nat) (hkk : 8 ≤ kk) (hFS : ∀ (a : Int32) (st : St) (q : Int32 × St) (sz : Nat), FS a st = some q → CtI l yX9_readSum (wsU yX9_readSum cX9_readSum 5 (some .boolean)) (rmK kk) D G ad sz [.ref (ad 15), .int a] st q)  (st : St) (res : (Int32 × St))  (hf : fX9_readAtom_s140 n  FS v3 st = some res) : At p l e (rmK (kk + 1)) s m args below meth c D G ad (MQI D G ad below args s res) 4 st [(3, .int v3)] 140 [.ref (ad 15)] := by
  obtain ⟨hx, hb, hml, hown, hts, hr, hlk, hK, had, hSt⟩ := id C
  intro H locs ls hl hP hS
  unfold fX9_readAtom_s140 at hf
  refine lv_bipush (v := (-12)) hx hb dX9_readAtom_140 (by decide) ?_
  refine lv_goto (tgt := 147) hx hb dX9_readAtom_142 (by decide) ?_
  exact wX9_readAtom_s147 C n FS v3 (-12) kk hkk hFS st res hf H locs ls (lv_sub hl [0] rfl) hP hS
def fX9_readAtom_s132 (n : Nat)  (FS : Int32 → St → Option (Int32 × St)) (v2 : Int32) (k0 : Int32) (st : St) : Option (Int32 × St) := if v2 = 7 then fX9_readAtom_s140 n FS k0 st else fX9_readAtom_s145 n FS k0 st
set_option maxHeartbeats 4000000 in
set_option maxRecDepth 100000 in
theorem wX9_readAtom_s132 (C : Cx p s m args meth c cX9_readAtom 4 wsL_law RX9 (some .boolean) D G ad) (n : Nat)  (FS : Int32 → St → Option (Int32 × St)) (v2 : Int32) (k0 : Int32) (kk : Nat) (hkk : 8 ≤ kk) (hFS : ∀ (a : Int32) (st : St) (q : Int32 × St) (sz : Nat), FS a st = some q → CtI l yX9_readSum (wsU yX9_readSum cX9_readSum 5 (some .boolean)) (rmK kk) D G ad sz [.ref (ad 15), .int a] st q)  (st : St) (res : (Int32 × St))  (hf : fX9_readAtom_s132 n  FS v2 k0 st = some res) : At p l e (rmK (kk + 1)) s m args below meth c D G ad (MQI D G ad below args s res) 4 st [(0, .ref (ad 15)), (2, .int v2)] 132 [.int k0] := by
  obtain ⟨hx, hb, hml, hown, hts, hr, hlk, hK, had, hSt⟩ := id C
  intro H locs ls hl hP hS
  unfold fX9_readAtom_s132 at hf
  refine lv_istore_n (lv' := [(3, .int k0), (0, .ref (ad 15)), (2, .int v2)]) hx hb dX9_readAtom_132 rfl hl (by decide) rfl (fun ls hl => ?_)
  refine lv_aload_n hx hb dX9_readAtom_133 rfl (lv_at hl 1 rfl) ?_
  refine lv_iload_n hx hb dX9_readAtom_134 rfl (lv_at hl 2 rfl) ?_
  refine lv_bipush (v := 7) hx hb dX9_readAtom_135 (by decide) ?_
  refine lv_icmp_ne (tgt := 145) hx hb dX9_readAtom_137 (by decide) (fun q => ?_) (fun q => ?_)
  · exact wX9_readAtom_s145 C n FS k0 kk hkk hFS st res (ie hf q) H locs ls (lv_sub hl [0] rfl) hP hS
  · exact wX9_readAtom_s140 C n FS k0 kk hkk hFS st res (it hf q) H locs ls (lv_sub hl [0] rfl) hP hS
def fX9_readAtom_s131 (n : Nat)  (FS : Int32 → St → Option (Int32 × St)) (v2 : Int32) (st : St) : Option (Int32 × St) := fX9_readAtom_s132 n FS v2 0 st
set_option maxHeartbeats 4000000 in
set_option maxRecDepth 100000 in
theorem wX9_readAtom_s131 (C : Cx p s m args meth c cX9_readAtom 4 wsL_law RX9 (some .boolean) D G ad) (n : Nat)  (FS : Int32 → St → Option (Int32 × St)) (v2 : Int32) (kk : Nat) (hkk : 8 ≤ kk) (hFS : ∀ (a : Int32) (st : St) (q : Int32 × St) (sz : Nat), FS a st = some q → CtI l yX9_readSum (wsU yX9_readSum cX9_readSum 5 (some .boolean)) (rmK kk) D G ad sz [.ref (ad 15), .int a] st q)  (st : St) (res : (Int32 × St))  (hf : fX9_readAtom_s131 n  FS v2 st = some res) : At p l e (rmK (kk + 1)) s m args below meth c D G ad (MQI D G ad below args s res) 4 st [(0, .ref (ad 15)), (2, .int v2)] 131 [] := by
  obtain ⟨hx, hb, hml, hown, hts, hr, hlk, hK, had, hSt⟩ := id C
  intro H locs ls hl hP hS
  unfold fX9_readAtom_s131 at hf
  refine lv_iconst (v := 0) hx hb dX9_readAtom_131 (by decide) ?_
  exact wX9_readAtom_s132 C n FS v2 0 kk hkk hFS st res hf H locs ls (lv_sub hl [0, 1] rfl) hP hS
def fX9_readAtom_s127 (n : Nat)  (FS : Int32 → St → Option (Int32 × St)) (v2 : Int32) (st : St) : Option (Int32 × St) := fX9_readAtom_s132 n FS v2 1 st
set_option maxHeartbeats 4000000 in
set_option maxRecDepth 100000 in
theorem wX9_readAtom_s127 (C : Cx p s m args meth c cX9_readAtom 4 wsL_law RX9 (some .boolean) D G ad) (n : Nat)  (FS : Int32 → St → Option (Int32 × St)) (v2 : Int32) (kk : Nat) (hkk : 8 ≤ kk) (hFS : ∀ (a : Int32) (st : St) (q : Int32 × St) (sz : Nat), FS a st = some q → CtI l yX9_readSum (wsU yX9_readSum cX9_readSum 5 (some .boolean)) (rmK kk) D G ad sz [.ref (ad 15), .int a] st q)  (st : St) (res : (Int32 × St))  (hf : fX9_readAtom_s127 n  FS v2 st = some res) : At p l e (rmK (kk + 1)) s m args below meth c D G ad (MQI D G ad below args s res) 4 st [(0, .ref (ad 15)), (2, .int v2)] 127 [] := by
  obtain ⟨hx, hb, hml, hown, hts, hr, hlk, hK, had, hSt⟩ := id C
  intro H locs ls hl hP hS
  unfold fX9_readAtom_s127 at hf
  refine lv_iconst (v := 1) hx hb dX9_readAtom_127 (by decide) ?_
  refine lv_goto (tgt := 132) hx hb dX9_readAtom_128 (by decide) ?_
  exact wX9_readAtom_s132 C n FS v2 1 kk hkk hFS st res hf H locs ls (lv_sub hl [0, 1] rfl) hP hS
def fX9_readAtom_s124 (n : Nat)  (FS : Int32 → St → Option (Int32 × St)) (v2 : Int32) (k0 : Int32) (st : St) : Option (Int32 × St) := if k0 = 0 then fX9_readAtom_s131 n FS v2 st else fX9_readAtom_s127 n FS v2 st
set_option maxHeartbeats 4000000 in
set_option maxRecDepth 100000 in
theorem wX9_readAtom_s124 (C : Cx p s m args meth c cX9_readAtom 4 wsL_law RX9 (some .boolean) D G ad) (n : Nat)  (FS : Int32 → St → Option (Int32 × St)) (v2 : Int32) (k0 : Int32) (kk : Nat) (hkk : 8 ≤ kk) (hFS : ∀ (a : Int32) (st : St) (q : Int32 × St) (sz : Nat), FS a st = some q → CtI l yX9_readSum (wsU yX9_readSum cX9_readSum 5 (some .boolean)) (rmK kk) D G ad sz [.ref (ad 15), .int a] st q)  (st : St) (res : (Int32 × St))  (hf : fX9_readAtom_s124 n  FS v2 k0 st = some res) : At p l e (rmK (kk + 1)) s m args below meth c D G ad (MQI D G ad below args s res) 4 st [(0, .ref (ad 15)), (2, .int v2)] 124 [.int k0] := by
  obtain ⟨hx, hb, hml, hown, hts, hr, hlk, hK, had, hSt⟩ := id C
  intro H locs ls hl hP hS
  unfold fX9_readAtom_s124 at hf
  refine lv_if_eq (tgt := 131) hx hb dX9_readAtom_124 (by decide) (fun q => ?_) (fun q => ?_)
  · exact wX9_readAtom_s131 C n FS v2 kk hkk hFS st res (it hf q) H locs ls (lv_sub hl [0, 1] rfl) hP hS
  · exact wX9_readAtom_s127 C n FS v2 kk hkk hFS st res (ie hf q) H locs ls (lv_sub hl [0, 1] rfl) hP hS
def fX9_readAtom_s118 (n : Nat)  (FS : Int32 → St → Option (Int32 × St)) (v2 : Int32) (st : St) : Option (Int32 × St) := (fX9_take n 41 st).bind (fun q => fX9_readAtom_s124 n FS v2 q.1 q.2)
set_option maxHeartbeats 4000000 in
set_option maxRecDepth 100000 in
theorem wX9_readAtom_s118 (C : Cx p s m args meth c cX9_readAtom 4 wsL_law RX9 (some .boolean) D G ad) (n : Nat)  (FS : Int32 → St → Option (Int32 × St)) (v2 : Int32) (kk : Nat) (hkk : 8 ≤ kk) (hFS : ∀ (a : Int32) (st : St) (q : Int32 × St) (sz : Nat), FS a st = some q → CtI l yX9_readSum (wsU yX9_readSum cX9_readSum 5 (some .boolean)) (rmK kk) D G ad sz [.ref (ad 15), .int a] st q)  (st : St) (res : (Int32 × St))  (hf : fX9_readAtom_s118 n  FS v2 st = some res) : At p l e (rmK (kk + 1)) s m args below meth c D G ad (MQI D G ad below args s res) 4 st [(0, .ref (ad 15)), (2, .int v2)] 118 [] := by
  obtain ⟨hx, hb, hml, hown, hts, hr, hlk, hK, had, hSt⟩ := id C
  intro H locs ls hl hP hS
  unfold fX9_readAtom_s118 at hf
  refine lv_aload_n hx hb dX9_readAtom_118 rfl (lv_at hl 0 rfl) ?_
  refine lv_bipush (v := 41) hx hb dX9_readAtom_119 (by decide) ?_
  obtain ⟨q, hq, hf⟩ := bd hf
  refine gcV_i (k := 1) (o := 15) (As := [.int 41]) (rest := []) hx hb hml hown hts hK hSt hP hS hl.1 (goodV wm_27_7 wm_27_8 wm_27_9 wm_1_23 wm_27_10) okX9_take ct_15 rfl rfl (by omega) (Nat.le_of_ble_eq_true rfl) rfl rfl (Nat.le_of_ble_eq_true rfl) dX9_readAtom_121 (kX9_take l D G ad had n  41 st q hq) (fun H locs hP hS => ?_)
  exact wX9_readAtom_s124 C n FS v2 q.1 kk hkk hFS q.2 res hf H locs ls (lv_sub hl [0, 1] rfl) hP hS
def fX9_readAtom_s115 (n : Nat)  (FS : Int32 → St → Option (Int32 × St)) (v2 : Int32) (k0 : Int32) (st : St) : Option (Int32 × St) := if k0 = 0 then fX9_readAtom_s131 n FS v2 st else fX9_readAtom_s118 n FS v2 st
set_option maxHeartbeats 4000000 in
set_option maxRecDepth 100000 in
theorem wX9_readAtom_s115 (C : Cx p s m args meth c cX9_readAtom 4 wsL_law RX9 (some .boolean) D G ad) (n : Nat)  (FS : Int32 → St → Option (Int32 × St)) (v2 : Int32) (k0 : Int32) (kk : Nat) (hkk : 8 ≤ kk) (hFS : ∀ (a : Int32) (st : St) (q : Int32 × St) (sz : Nat), FS a st = some q → CtI l yX9_readSum (wsU yX9_readSum cX9_readSum 5 (some .boolean)) (rmK kk) D G ad sz [.ref (ad 15), .int a] st q)  (st : St) (res : (Int32 × St))  (hf : fX9_readAtom_s115 n  FS v2 k0 st = some res) : At p l e (rmK (kk + 1)) s m args below meth c D G ad (MQI D G ad below args s res) 4 st [(0, .ref (ad 15)), (2, .int v2)] 115 [.int k0] := by
  obtain ⟨hx, hb, hml, hown, hts, hr, hlk, hK, had, hSt⟩ := id C
  intro H locs ls hl hP hS
  unfold fX9_readAtom_s115 at hf
  refine lv_if_eq (tgt := 131) hx hb dX9_readAtom_115 (by decide) (fun q => ?_) (fun q => ?_)
  · exact wX9_readAtom_s131 C n FS v2 kk hkk hFS st res (it hf q) H locs ls (lv_sub hl [0, 1] rfl) hP hS
  · exact wX9_readAtom_s118 C n FS v2 kk hkk hFS st res (ie hf q) H locs ls (lv_sub hl [0, 1] rfl) hP hS
def fX9_readAtom_s108 (n : Nat)  (FS : Int32 → St → Option (Int32 × St)) (v1 : Int32) (v2 : Int32) (st : St) : Option (Int32 × St) := (FS (v1 + 1) st).bind (fun q => fX9_readAtom_s115 n FS v2 q.1 q.2)
set_option maxHeartbeats 4000000 in
set_option maxRecDepth 100000 in
theorem wX9_readAtom_s108 (C : Cx p s m args meth c cX9_readAtom 4 wsL_law RX9 (some .boolean) D G ad) (n : Nat)  (FS : Int32 → St → Option (Int32 × St)) (v1 : Int32) (v2 : Int32) (kk : Nat) (hkk : 8 ≤ kk) (hFS : ∀ (a : Int32) (st : St) (q : Int32 × St) (sz : Nat), FS a st = some q → CtI l yX9_readSum (wsU yX9_readSum cX9_readSum 5 (some .boolean)) (rmK kk) D G ad sz [.ref (ad 15), .int a] st q)  (st : St) (res : (Int32 × St))  (hf : fX9_readAtom_s108 n  FS v1 v2 st = some res) : At p l e (rmK (kk + 1)) s m args below meth c D G ad (MQI D G ad below args s res) 4 st [(0, .ref (ad 15)), (1, .int v1), (2, .int v2)] 108 [] := by
  obtain ⟨hx, hb, hml, hown, hts, hr, hlk, hK, had, hSt⟩ := id C
  intro H locs ls hl hP hS
  unfold fX9_readAtom_s108 at hf
  refine lv_aload_n hx hb dX9_readAtom_108 rfl (lv_at hl 0 rfl) ?_
  refine lv_iload_n hx hb dX9_readAtom_109 rfl (lv_at hl 1 rfl) ?_
  refine lv_iconst (v := 1) hx hb dX9_readAtom_110 (by decide) ?_
  refine lv_iadd hx hb dX9_readAtom_111 ?_
  obtain ⟨q, hq, hf⟩ := bd hf
  refine gcV_i (k := kk) (o := 15) (As := [.int (v1 + 1)]) (rest := []) hx hb hml hown hts hK hSt hP hS hl.1 (goodV wm_26_3 wm_26_4 wm_26_5 wm_1_23 wm_26_6) okX9_readSum ct_15 rfl rfl (by omega) (Nat.le_of_ble_eq_true rfl) rfl rfl (Nat.le_of_ble_eq_true rfl) dX9_readAtom_112 (hFS _ _ _ _ hq) (fun H locs hP hS => ?_)
  exact wX9_readAtom_s115 C n FS v2 q.1 kk hkk hFS q.2 res hf H locs ls (lv_sub hl [0, 2] rfl) hP hS
def fX9_readAtom_s105 (n : Nat)  (FS : Int32 → St → Option (Int32 × St)) (v1 : Int32) (v2 : Int32) (k0 : Int32) (st : St) : Option (Int32 × St) := if k0 = 0 then fX9_readAtom_s131 n FS v2 st else fX9_readAtom_s108 n FS v1 v2 st
set_option maxHeartbeats 4000000 in
set_option maxRecDepth 100000 in
theorem wX9_readAtom_s105 (C : Cx p s m args meth c cX9_readAtom 4 wsL_law RX9 (some .boolean) D G ad) (n : Nat)  (FS : Int32 → St → Option (Int32 × St)) (v1 : Int32) (v2 : Int32) (k0 : Int32) (kk : Nat) (hkk : 8 ≤ kk) (hFS : ∀ (a : Int32) (st : St) (q : Int32 × St) (sz : Nat), FS a st = some q → CtI l yX9_readSum (wsU yX9_readSum cX9_readSum 5 (some .boolean)) (rmK kk) D G ad sz [.ref (ad 15), .int a] st q)  (st : St) (res : (Int32 × St))  (hf : fX9_readAtom_s105 n  FS v1 v2 k0 st = some res) : At p l e (rmK (kk + 1)) s m args below meth c D G ad (MQI D G ad below args s res) 4 st [(0, .ref (ad 15)), (1, .int v1), (2, .int v2)] 105 [.int k0] := by
  obtain ⟨hx, hb, hml, hown, hts, hr, hlk, hK, had, hSt⟩ := id C
  intro H locs ls hl hP hS
  unfold fX9_readAtom_s105 at hf
  refine lv_if_eq (tgt := 131) hx hb dX9_readAtom_105 (by decide) (fun q => ?_) (fun q => ?_)
  · exact wX9_readAtom_s131 C n FS v2 kk hkk hFS st res (it hf q) H locs ls (lv_sub hl [0, 2] rfl) hP hS
  · exact wX9_readAtom_s108 C n FS v1 v2 kk hkk hFS st res (ie hf q) H locs ls (lv_sub hl [0, 1, 2] rfl) hP hS
def fX9_readAtom_s99 (n : Nat)  (FS : Int32 → St → Option (Int32 × St)) (v1 : Int32) (v2 : Int32) (st : St) : Option (Int32 × St) := (fX9_take n 44 st).bind (fun q => fX9_readAtom_s105 n FS v1 v2 q.1 q.2)
set_option maxHeartbeats 4000000 in
set_option maxRecDepth 100000 in
theorem wX9_readAtom_s99 (C : Cx p s m args meth c cX9_readAtom 4 wsL_law RX9 (some .boolean) D G ad) (n : Nat)  (FS : Int32 → St → Option (Int32 × St)) (v1 : Int32) (v2 : Int32) (kk : Nat) (hkk : 8 ≤ kk) (hFS : ∀ (a : Int32) (st : St) (q : Int32 × St) (sz : Nat), FS a st = some q → CtI l yX9_readSum (wsU yX9_readSum cX9_readSum 5 (some .boolean)) (rmK kk) D G ad sz [.ref (ad 15), .int a] st q)  (st : St) (res : (Int32 × St))  (hf : fX9_readAtom_s99 n  FS v1 v2 st = some res) : At p l e (rmK (kk + 1)) s m args below meth c D G ad (MQI D G ad below args s res) 4 st [(0, .ref (ad 15)), (1, .int v1), (2, .int v2)] 99 [] := by
  obtain ⟨hx, hb, hml, hown, hts, hr, hlk, hK, had, hSt⟩ := id C
  intro H locs ls hl hP hS
  unfold fX9_readAtom_s99 at hf
  refine lv_aload_n hx hb dX9_readAtom_99 rfl (lv_at hl 0 rfl) ?_
  refine lv_bipush (v := 44) hx hb dX9_readAtom_100 (by decide) ?_
  obtain ⟨q, hq, hf⟩ := bd hf
  refine gcV_i (k := 1) (o := 15) (As := [.int 44]) (rest := []) hx hb hml hown hts hK hSt hP hS hl.1 (goodV wm_27_7 wm_27_8 wm_27_9 wm_1_23 wm_27_10) okX9_take ct_15 rfl rfl (by omega) (Nat.le_of_ble_eq_true rfl) rfl rfl (Nat.le_of_ble_eq_true rfl) dX9_readAtom_102 (kX9_take l D G ad had n  44 st q hq) (fun H locs hP hS => ?_)
  exact wX9_readAtom_s105 C n FS v1 v2 q.1 kk hkk hFS q.2 res hf H locs ls (lv_sub hl [0, 1, 2] rfl) hP hS
def fX9_readAtom_s96 (n : Nat)  (FS : Int32 → St → Option (Int32 × St)) (v1 : Int32) (v2 : Int32) (k0 : Int32) (st : St) : Option (Int32 × St) := if k0 = 0 then fX9_readAtom_s131 n FS v2 st else fX9_readAtom_s99 n FS v1 v2 st
set_option maxHeartbeats 4000000 in
set_option maxRecDepth 100000 in
theorem wX9_readAtom_s96 (C : Cx p s m args meth c cX9_readAtom 4 wsL_law RX9 (some .boolean) D G ad) (n : Nat)  (FS : Int32 → St → Option (Int32 × St)) (v1 : Int32) (v2 : Int32) (k0 : Int32) (kk : Nat) (hkk : 8 ≤ kk) (hFS : ∀ (a : Int32) (st : St) (q : Int32 × St) (sz : Nat), FS a st = some q → CtI l yX9_readSum (wsU yX9_readSum cX9_readSum 5 (some .boolean)) (rmK kk) D G ad sz [.ref (ad 15), .int a] st q)  (st : St) (res : (Int32 × St))  (hf : fX9_readAtom_s96 n  FS v1 v2 k0 st = some res) : At p l e (rmK (kk + 1)) s m args below meth c D G ad (MQI D G ad below args s res) 4 st [(0, .ref (ad 15)), (1, .int v1), (2, .int v2)] 96 [.int k0] := by
  obtain ⟨hx, hb, hml, hown, hts, hr, hlk, hK, had, hSt⟩ := id C
  intro H locs ls hl hP hS
  unfold fX9_readAtom_s96 at hf
  refine lv_if_eq (tgt := 131) hx hb dX9_readAtom_96 (by decide) (fun q => ?_) (fun q => ?_)
  · exact wX9_readAtom_s131 C n FS v2 kk hkk hFS st res (it hf q) H locs ls (lv_sub hl [0, 2] rfl) hP hS
  · exact wX9_readAtom_s99 C n FS v1 v2 kk hkk hFS st res (ie hf q) H locs ls (lv_sub hl [0, 1, 2] rfl) hP hS
def fX9_readAtom_s89 (n : Nat)  (FS : Int32 → St → Option (Int32 × St)) (v1 : Int32) (v2 : Int32) (st : St) : Option (Int32 × St) := (FS (v1 + 1) st).bind (fun q => fX9_readAtom_s96 n FS v1 v2 q.1 q.2)
set_option maxHeartbeats 4000000 in
set_option maxRecDepth 100000 in
theorem wX9_readAtom_s89 (C : Cx p s m args meth c cX9_readAtom 4 wsL_law RX9 (some .boolean) D G ad) (n : Nat)  (FS : Int32 → St → Option (Int32 × St)) (v1 : Int32) (v2 : Int32) (kk : Nat) (hkk : 8 ≤ kk) (hFS : ∀ (a : Int32) (st : St) (q : Int32 × St) (sz : Nat), FS a st = some q → CtI l yX9_readSum (wsU yX9_readSum cX9_readSum 5 (some .boolean)) (rmK kk) D G ad sz [.ref (ad 15), .int a] st q)  (st : St) (res : (Int32 × St))  (hf : fX9_readAtom_s89 n  FS v1 v2 st = some res) : At p l e (rmK (kk + 1)) s m args below meth c D G ad (MQI D G ad below args s res) 4 st [(0, .ref (ad 15)), (1, .int v1), (2, .int v2)] 89 [] := by
  obtain ⟨hx, hb, hml, hown, hts, hr, hlk, hK, had, hSt⟩ := id C
  intro H locs ls hl hP hS
  unfold fX9_readAtom_s89 at hf
  refine lv_aload_n hx hb dX9_readAtom_89 rfl (lv_at hl 0 rfl) ?_
  refine lv_iload_n hx hb dX9_readAtom_90 rfl (lv_at hl 1 rfl) ?_
  refine lv_iconst (v := 1) hx hb dX9_readAtom_91 (by decide) ?_
  refine lv_iadd hx hb dX9_readAtom_92 ?_
  obtain ⟨q, hq, hf⟩ := bd hf
  refine gcV_i (k := kk) (o := 15) (As := [.int (v1 + 1)]) (rest := []) hx hb hml hown hts hK hSt hP hS hl.1 (goodV wm_26_3 wm_26_4 wm_26_5 wm_1_23 wm_26_6) okX9_readSum ct_15 rfl rfl (by omega) (Nat.le_of_ble_eq_true rfl) rfl rfl (Nat.le_of_ble_eq_true rfl) dX9_readAtom_93 (hFS _ _ _ _ hq) (fun H locs hP hS => ?_)
  exact wX9_readAtom_s96 C n FS v1 v2 q.1 kk hkk hFS q.2 res hf H locs ls (lv_sub hl [0, 1, 2] rfl) hP hS
def fX9_readAtom_s86 (n : Nat)  (FS : Int32 → St → Option (Int32 × St)) (v1 : Int32) (v2 : Int32) (k0 : Int32) (st : St) : Option (Int32 × St) := if k0 = 0 then fX9_readAtom_s131 n FS v2 st else fX9_readAtom_s89 n FS v1 v2 st
set_option maxHeartbeats 4000000 in
set_option maxRecDepth 100000 in
theorem wX9_readAtom_s86 (C : Cx p s m args meth c cX9_readAtom 4 wsL_law RX9 (some .boolean) D G ad) (n : Nat)  (FS : Int32 → St → Option (Int32 × St)) (v1 : Int32) (v2 : Int32) (k0 : Int32) (kk : Nat) (hkk : 8 ≤ kk) (hFS : ∀ (a : Int32) (st : St) (q : Int32 × St) (sz : Nat), FS a st = some q → CtI l yX9_readSum (wsU yX9_readSum cX9_readSum 5 (some .boolean)) (rmK kk) D G ad sz [.ref (ad 15), .int a] st q)  (st : St) (res : (Int32 × St))  (hf : fX9_readAtom_s86 n  FS v1 v2 k0 st = some res) : At p l e (rmK (kk + 1)) s m args below meth c D G ad (MQI D G ad below args s res) 4 st [(0, .ref (ad 15)), (1, .int v1), (2, .int v2)] 86 [.int k0] := by
  obtain ⟨hx, hb, hml, hown, hts, hr, hlk, hK, had, hSt⟩ := id C
  intro H locs ls hl hP hS
  unfold fX9_readAtom_s86 at hf
  refine lv_if_eq (tgt := 131) hx hb dX9_readAtom_86 (by decide) (fun q => ?_) (fun q => ?_)
  · exact wX9_readAtom_s131 C n FS v2 kk hkk hFS st res (it hf q) H locs ls (lv_sub hl [0, 2] rfl) hP hS
  · exact wX9_readAtom_s89 C n FS v1 v2 kk hkk hFS st res (ie hf q) H locs ls (lv_sub hl [0, 1, 2] rfl) hP hS
def fX9_readAtom_s81 (n : Nat)  (FS : Int32 → St → Option (Int32 × St)) (v1 : Int32) (v2 : Int32) (st : St) : Option (Int32 × St) := (fX9_openOne n v1 st).bind (fun q => fX9_readAtom_s86 n FS v1 v2 q.1 q.2)
set_option maxHeartbeats 4000000 in
set_option maxRecDepth 100000 in
theorem wX9_readAtom_s81 (C : Cx p s m args meth c cX9_readAtom 4 wsL_law RX9 (some .boolean) D G ad) (n : Nat)  (FS : Int32 → St → Option (Int32 × St)) (v1 : Int32) (v2 : Int32) (kk : Nat) (hkk : 8 ≤ kk) (hFS : ∀ (a : Int32) (st : St) (q : Int32 × St) (sz : Nat), FS a st = some q → CtI l yX9_readSum (wsU yX9_readSum cX9_readSum 5 (some .boolean)) (rmK kk) D G ad sz [.ref (ad 15), .int a] st q)  (st : St) (res : (Int32 × St))  (hf : fX9_readAtom_s81 n  FS v1 v2 st = some res) : At p l e (rmK (kk + 1)) s m args below meth c D G ad (MQI D G ad below args s res) 4 st [(0, .ref (ad 15)), (1, .int v1), (2, .int v2)] 81 [] := by
  obtain ⟨hx, hb, hml, hown, hts, hr, hlk, hK, had, hSt⟩ := id C
  intro H locs ls hl hP hS
  unfold fX9_readAtom_s81 at hf
  refine lv_aload_n hx hb dX9_readAtom_81 rfl (lv_at hl 0 rfl) ?_
  refine lv_iload_n hx hb dX9_readAtom_82 rfl (lv_at hl 1 rfl) ?_
  obtain ⟨q, hq, hf⟩ := bd hf
  refine gcV_i (k := 2) (o := 15) (As := [.int v1]) (rest := []) hx hb hml hown hts hK hSt hP hS hl.1 (goodV wm_27_3 wm_27_4 wm_27_5 wm_1_23 wm_27_6) okX9_openOne ct_15 rfl rfl (by omega) (Nat.le_of_ble_eq_true rfl) rfl rfl (Nat.le_of_ble_eq_true rfl) dX9_readAtom_83 (kX9_openOne l D G ad had n  v1 st q hq) (fun H locs hP hS => ?_)
  exact wX9_readAtom_s86 C n FS v1 v2 q.1 kk hkk hFS q.2 res hf H locs ls (lv_sub hl [0, 1, 2] rfl) hP hS
def fX9_readAtom_s79 (n : Nat)  (FS : Int32 → St → Option (Int32 × St))  (st : St) : Option (Int32 × St) := some (1, st)
set_option maxHeartbeats 4000000 in
set_option maxRecDepth 100000 in
theorem wX9_readAtom_s79 (C : Cx p s m args meth c cX9_readAtom 4 wsL_law RX9 (some .boolean) D G ad) (n : Nat)  (FS : Int32 → St → Option (Int32 × St))  (kk : Nat) (hkk : 8 ≤ kk) (hFS : ∀ (a : Int32) (st : St) (q : Int32 × St) (sz : Nat), FS a st = some q → CtI l yX9_readSum (wsU yX9_readSum cX9_readSum 5 (some .boolean)) (rmK kk) D G ad sz [.ref (ad 15), .int a] st q)  (st : St) (res : (Int32 × St))  (hf : fX9_readAtom_s79 n  FS  st = some res) : At p l e (rmK (kk + 1)) s m args below meth c D G ad (MQI D G ad below args s res) 4 st [] 79 [] := by
  obtain ⟨hx, hb, hml, hown, hts, hr, hlk, hK, had, hSt⟩ := id C
  intro H locs ls hl hP hS
  unfold fX9_readAtom_s79 at hf
  refine lv_iconst (v := 1) hx hb dX9_readAtom_79 (by decide) ?_
  exact g_zret hx hb hr hlk hP hS (Or.inr rfl) dX9_readAtom_80 hf
def fX9_readAtom_s72 (n : Nat)  (FS : Int32 → St → Option (Int32 × St)) (v2 : Int32) (st : St) : Option (Int32 × St) := (fX9_emit n ((-1) - v2) st).bind (fun q => fX9_readAtom_s79 n FS q.2)
set_option maxHeartbeats 4000000 in
set_option maxRecDepth 100000 in
theorem wX9_readAtom_s72 (C : Cx p s m args meth c cX9_readAtom 4 wsL_law RX9 (some .boolean) D G ad) (n : Nat)  (FS : Int32 → St → Option (Int32 × St)) (v2 : Int32) (kk : Nat) (hkk : 8 ≤ kk) (hFS : ∀ (a : Int32) (st : St) (q : Int32 × St) (sz : Nat), FS a st = some q → CtI l yX9_readSum (wsU yX9_readSum cX9_readSum 5 (some .boolean)) (rmK kk) D G ad sz [.ref (ad 15), .int a] st q)  (st : St) (res : (Int32 × St))  (hf : fX9_readAtom_s72 n  FS v2 st = some res) : At p l e (rmK (kk + 1)) s m args below meth c D G ad (MQI D G ad below args s res) 4 st [(0, .ref (ad 15)), (2, .int v2)] 72 [] := by
  obtain ⟨hx, hb, hml, hown, hts, hr, hlk, hK, had, hSt⟩ := id C
  intro H locs ls hl hP hS
  unfold fX9_readAtom_s72 at hf
  refine lv_aload_n hx hb dX9_readAtom_72 rfl (lv_at hl 0 rfl) ?_
  refine lv_iconst (v := (-1)) hx hb dX9_readAtom_73 (by decide) ?_
  refine lv_iload_n hx hb dX9_readAtom_74 rfl (lv_at hl 1 rfl) ?_
  refine lv_isub hx hb dX9_readAtom_75 ?_
  obtain ⟨q, hq, hf⟩ := bd hf
  refine gcV_v (k := 0) (o := 15) (As := [.int ((-1) - v2)]) (rest := []) hx hb hml hown hts hK hSt hP hS hl.1 (goodV wm_26_14 wm_26_15 wm_26_16 wm_1_23 wm_26_17) okX9_emit ct_15 rfl rfl (by omega) (Nat.le_of_ble_eq_true rfl) rfl rfl (Nat.le_of_ble_eq_true rfl) dX9_readAtom_76 (kX9_emit l D G ad had n  ((-1) - v2) st q hq) (fun H locs hP hS => ?_)
  exact wX9_readAtom_s79 C n FS kk hkk hFS q.2 res hf H locs ls (lv_sub hl [] rfl) hP hS
def fX9_readAtom_s66 (n : Nat)  (FS : Int32 → St → Option (Int32 × St)) (v1 : Int32) (v2 : Int32) (st : St) : Option (Int32 × St) := if 7 ≤ v2 then fX9_readAtom_s81 n FS v1 v2 st else fX9_readAtom_s72 n FS v2 st
set_option maxHeartbeats 4000000 in
set_option maxRecDepth 100000 in
theorem wX9_readAtom_s66 (C : Cx p s m args meth c cX9_readAtom 4 wsL_law RX9 (some .boolean) D G ad) (n : Nat)  (FS : Int32 → St → Option (Int32 × St)) (v1 : Int32) (v2 : Int32) (kk : Nat) (hkk : 8 ≤ kk) (hFS : ∀ (a : Int32) (st : St) (q : Int32 × St) (sz : Nat), FS a st = some q → CtI l yX9_readSum (wsU yX9_readSum cX9_readSum 5 (some .boolean)) (rmK kk) D G ad sz [.ref (ad 15), .int a] st q)  (st : St) (res : (Int32 × St))  (hf : fX9_readAtom_s66 n  FS v1 v2 st = some res) : At p l e (rmK (kk + 1)) s m args below meth c D G ad (MQI D G ad below args s res) 4 st [(0, .ref (ad 15)), (1, .int v1), (2, .int v2)] 66 [] := by
  obtain ⟨hx, hb, hml, hown, hts, hr, hlk, hK, had, hSt⟩ := id C
  intro H locs ls hl hP hS
  unfold fX9_readAtom_s66 at hf
  refine lv_iload_n hx hb dX9_readAtom_66 rfl (lv_at hl 2 rfl) ?_
  refine lv_bipush (v := 7) hx hb dX9_readAtom_67 (by decide) ?_
  refine lv_icmp_ge (tgt := 81) hx hb dX9_readAtom_69 (by decide) (fun q => ?_) (fun q => ?_)
  · exact wX9_readAtom_s81 C n FS v1 v2 kk hkk hFS st res (it hf q) H locs ls (lv_sub hl [0, 1, 2] rfl) hP hS
  · exact wX9_readAtom_s72 C n FS v2 kk hkk hFS st res (ie hf q) H locs ls (lv_sub hl [0, 2] rfl) hP hS
def fX9_readAtom_s64 (n : Nat)  (FS : Int32 → St → Option (Int32 × St))  (st : St) : Option (Int32 × St) := some (0, st)
set_option maxHeartbeats 4000000 in
set_option maxRecDepth 100000 in
theorem wX9_readAtom_s64 (C : Cx p s m args meth c cX9_readAtom 4 wsL_law RX9 (some .boolean) D G ad) (n : Nat)  (FS : Int32 → St → Option (Int32 × St))  (kk : Nat) (hkk : 8 ≤ kk) (hFS : ∀ (a : Int32) (st : St) (q : Int32 × St) (sz : Nat), FS a st = some q → CtI l yX9_readSum (wsU yX9_readSum cX9_readSum 5 (some .boolean)) (rmK kk) D G ad sz [.ref (ad 15), .int a] st q)  (st : St) (res : (Int32 × St))  (hf : fX9_readAtom_s64 n  FS  st = some res) : At p l e (rmK (kk + 1)) s m args below meth c D G ad (MQI D G ad below args s res) 4 st [] 64 [] := by
  obtain ⟨hx, hb, hml, hown, hts, hr, hlk, hK, had, hSt⟩ := id C
  intro H locs ls hl hP hS
  unfold fX9_readAtom_s64 at hf
  refine lv_iconst (v := 0) hx hb dX9_readAtom_64 (by decide) ?_
  exact g_zret hx hb hr hlk hP hS (Or.inl rfl) dX9_readAtom_65 hf
def fX9_readAtom_s59 (n : Nat)  (FS : Int32 → St → Option (Int32 × St)) (v1 : Int32) (k0 : Int32) (st : St) : Option (Int32 × St) := if 0 ≤ k0 then fX9_readAtom_s66 n FS v1 k0 st else fX9_readAtom_s64 n FS st
set_option maxHeartbeats 4000000 in
set_option maxRecDepth 100000 in
theorem wX9_readAtom_s59 (C : Cx p s m args meth c cX9_readAtom 4 wsL_law RX9 (some .boolean) D G ad) (n : Nat)  (FS : Int32 → St → Option (Int32 × St)) (v1 : Int32) (k0 : Int32) (kk : Nat) (hkk : 8 ≤ kk) (hFS : ∀ (a : Int32) (st : St) (q : Int32 × St) (sz : Nat), FS a st = some q → CtI l yX9_readSum (wsU yX9_readSum cX9_readSum 5 (some .boolean)) (rmK kk) D G ad sz [.ref (ad 15), .int a] st q)  (st : St) (res : (Int32 × St))  (hf : fX9_readAtom_s59 n  FS v1 k0 st = some res) : At p l e (rmK (kk + 1)) s m args below meth c D G ad (MQI D G ad below args s res) 4 st [(0, .ref (ad 15)), (1, .int v1)] 59 [.int k0] := by
  obtain ⟨hx, hb, hml, hown, hts, hr, hlk, hK, had, hSt⟩ := id C
  intro H locs ls hl hP hS
  unfold fX9_readAtom_s59 at hf
  refine lv_istore_n (lv' := [(2, .int k0), (0, .ref (ad 15)), (1, .int v1)]) hx hb dX9_readAtom_59 rfl hl (by decide) rfl (fun ls hl => ?_)
  refine lv_iload_n hx hb dX9_readAtom_60 rfl (lv_at hl 0 rfl) ?_
  refine lv_if_ge (tgt := 66) hx hb dX9_readAtom_61 (by decide) (fun q => ?_) (fun q => ?_)
  · exact wX9_readAtom_s66 C n FS v1 k0 kk hkk hFS st res (it hf q) H locs ls (lv_sub hl [1, 2, 0] rfl) hP hS
  · exact wX9_readAtom_s64 C n FS kk hkk hFS st res (ie hf q) H locs ls (lv_sub hl [] rfl) hP hS
def fX9_readAtom_s55 (n : Nat)  (FS : Int32 → St → Option (Int32 × St)) (v1 : Int32) (st : St) : Option (Int32 × St) := (fX9_readWord n st).bind (fun q => fX9_readAtom_s59 n FS v1 q.1 q.2)
set_option maxHeartbeats 4000000 in
set_option maxRecDepth 100000 in
theorem wX9_readAtom_s55 (C : Cx p s m args meth c cX9_readAtom 4 wsL_law RX9 (some .boolean) D G ad) (n : Nat)  (FS : Int32 → St → Option (Int32 × St)) (v1 : Int32) (kk : Nat) (hkk : 8 ≤ kk) (hFS : ∀ (a : Int32) (st : St) (q : Int32 × St) (sz : Nat), FS a st = some q → CtI l yX9_readSum (wsU yX9_readSum cX9_readSum 5 (some .boolean)) (rmK kk) D G ad sz [.ref (ad 15), .int a] st q)  (st : St) (res : (Int32 × St))  (hf : fX9_readAtom_s55 n  FS v1 st = some res) : At p l e (rmK (kk + 1)) s m args below meth c D G ad (MQI D G ad below args s res) 4 st [(0, .ref (ad 15)), (1, .int v1)] 55 [] := by
  obtain ⟨hx, hb, hml, hown, hts, hr, hlk, hK, had, hSt⟩ := id C
  intro H locs ls hl hP hS
  unfold fX9_readAtom_s55 at hf
  refine lv_aload_n hx hb dX9_readAtom_55 rfl (lv_at hl 0 rfl) ?_
  obtain ⟨q, hq, hf⟩ := bd hf
  refine gcV_i (k := 4) (o := 15) (As := []) (rest := []) hx hb hml hown hts hK hSt hP hS hl.1 (goodV wm_27_11 wm_27_12 wm_27_13 wm_1_23 wm_27_14) okX9_readWord ct_15 rfl rfl (by omega) (Nat.le_of_ble_eq_true rfl) rfl rfl (Nat.le_of_ble_eq_true rfl) dX9_readAtom_56 (kX9_readWord l D G ad had n   st q hq) (fun H locs hP hS => ?_)
  exact wX9_readAtom_s59 C n FS v1 q.1 kk hkk hFS q.2 res hf H locs ls (lv_sub hl [0, 1] rfl) hP hS
def fX9_readAtom_s54 (n : Nat)  (FS : Int32 → St → Option (Int32 × St)) (k0 : Int32) (st : St) : Option (Int32 × St) := if zb k0 = true then (some (k0, st)) else none
set_option maxHeartbeats 4000000 in
set_option maxRecDepth 100000 in
theorem wX9_readAtom_s54 (C : Cx p s m args meth c cX9_readAtom 4 wsL_law RX9 (some .boolean) D G ad) (n : Nat)  (FS : Int32 → St → Option (Int32 × St)) (k0 : Int32) (kk : Nat) (hkk : 8 ≤ kk) (hFS : ∀ (a : Int32) (st : St) (q : Int32 × St) (sz : Nat), FS a st = some q → CtI l yX9_readSum (wsU yX9_readSum cX9_readSum 5 (some .boolean)) (rmK kk) D G ad sz [.ref (ad 15), .int a] st q)  (st : St) (res : (Int32 × St))  (hf : fX9_readAtom_s54 n  FS k0 st = some res) : At p l e (rmK (kk + 1)) s m args below meth c D G ad (MQI D G ad below args s res) 4 st [] 54 [.int k0] := by
  obtain ⟨hx, hb, hml, hown, hts, hr, hlk, hK, had, hSt⟩ := id C
  intro H locs ls hl hP hS
  unfold fX9_readAtom_s54 at hf
  obtain ⟨gz, hf⟩ := gd hf
  exact g_zret hx hb hr hlk hP hS (zb_of gz) dX9_readAtom_54 hf
def fX9_readAtom_s53 (n : Nat)  (FS : Int32 → St → Option (Int32 × St))  (st : St) : Option (Int32 × St) := fX9_readAtom_s54 n FS 0 st
set_option maxHeartbeats 4000000 in
set_option maxRecDepth 100000 in
theorem wX9_readAtom_s53 (C : Cx p s m args meth c cX9_readAtom 4 wsL_law RX9 (some .boolean) D G ad) (n : Nat)  (FS : Int32 → St → Option (Int32 × St))  (kk : Nat) (hkk : 8 ≤ kk) (hFS : ∀ (a : Int32) (st : St) (q : Int32 × St) (sz : Nat), FS a st = some q → CtI l yX9_readSum (wsU yX9_readSum cX9_readSum 5 (some .boolean)) (rmK kk) D G ad sz [.ref (ad 15), .int a] st q)  (st : St) (res : (Int32 × St))  (hf : fX9_readAtom_s53 n  FS  st = some res) : At p l e (rmK (kk + 1)) s m args below meth c D G ad (MQI D G ad below args s res) 4 st [] 53 [] := by
  obtain ⟨hx, hb, hml, hown, hts, hr, hlk, hK, had, hSt⟩ := id C
  intro H locs ls hl hP hS
  unfold fX9_readAtom_s53 at hf
  refine lv_iconst (v := 0) hx hb dX9_readAtom_53 (by decide) ?_
  exact wX9_readAtom_s54 C n FS 0 kk hkk hFS st res hf H locs ls (lv_sub hl [] rfl) hP hS
def fX9_readAtom_s49 (n : Nat)  (FS : Int32 → St → Option (Int32 × St))  (st : St) : Option (Int32 × St) := fX9_readAtom_s54 n FS 1 st
set_option maxHeartbeats 4000000 in
set_option maxRecDepth 100000 in
theorem wX9_readAtom_s49 (C : Cx p s m args meth c cX9_readAtom 4 wsL_law RX9 (some .boolean) D G ad) (n : Nat)  (FS : Int32 → St → Option (Int32 × St))  (kk : Nat) (hkk : 8 ≤ kk) (hFS : ∀ (a : Int32) (st : St) (q : Int32 × St) (sz : Nat), FS a st = some q → CtI l yX9_readSum (wsU yX9_readSum cX9_readSum 5 (some .boolean)) (rmK kk) D G ad sz [.ref (ad 15), .int a] st q)  (st : St) (res : (Int32 × St))  (hf : fX9_readAtom_s49 n  FS  st = some res) : At p l e (rmK (kk + 1)) s m args below meth c D G ad (MQI D G ad below args s res) 4 st [] 49 [] := by
  obtain ⟨hx, hb, hml, hown, hts, hr, hlk, hK, had, hSt⟩ := id C
  intro H locs ls hl hP hS
  unfold fX9_readAtom_s49 at hf
  refine lv_iconst (v := 1) hx hb dX9_readAtom_49 (by decide) ?_
  refine lv_goto (tgt := 54) hx hb dX9_readAtom_50 (by decide) ?_
  exact wX9_readAtom_s54 C n FS 1 kk hkk hFS st res hf H locs ls (lv_sub hl [] rfl) hP hS
def fX9_readAtom_s46 (n : Nat)  (FS : Int32 → St → Option (Int32 × St)) (k0 : Int32) (st : St) : Option (Int32 × St) := if k0 = 0 then fX9_readAtom_s53 n FS st else fX9_readAtom_s49 n FS st
set_option maxHeartbeats 4000000 in
set_option maxRecDepth 100000 in
theorem wX9_readAtom_s46 (C : Cx p s m args meth c cX9_readAtom 4 wsL_law RX9 (some .boolean) D G ad) (n : Nat)  (FS : Int32 → St → Option (Int32 × St)) (k0 : Int32) (kk : Nat) (hkk : 8 ≤ kk) (hFS : ∀ (a : Int32) (st : St) (q : Int32 × St) (sz : Nat), FS a st = some q → CtI l yX9_readSum (wsU yX9_readSum cX9_readSum 5 (some .boolean)) (rmK kk) D G ad sz [.ref (ad 15), .int a] st q)  (st : St) (res : (Int32 × St))  (hf : fX9_readAtom_s46 n  FS k0 st = some res) : At p l e (rmK (kk + 1)) s m args below meth c D G ad (MQI D G ad below args s res) 4 st [] 46 [.int k0] := by
  obtain ⟨hx, hb, hml, hown, hts, hr, hlk, hK, had, hSt⟩ := id C
  intro H locs ls hl hP hS
  unfold fX9_readAtom_s46 at hf
  refine lv_if_eq (tgt := 53) hx hb dX9_readAtom_46 (by decide) (fun q => ?_) (fun q => ?_)
  · exact wX9_readAtom_s53 C n FS kk hkk hFS st res (it hf q) H locs ls (lv_sub hl [] rfl) hP hS
  · exact wX9_readAtom_s49 C n FS kk hkk hFS st res (ie hf q) H locs ls (lv_sub hl [] rfl) hP hS
def fX9_readAtom_s40 (n : Nat)  (FS : Int32 → St → Option (Int32 × St))  (st : St) : Option (Int32 × St) := (fX9_take n 41 st).bind (fun q => fX9_readAtom_s46 n FS q.1 q.2)
set_option maxHeartbeats 4000000 in
set_option maxRecDepth 100000 in
theorem wX9_readAtom_s40 (C : Cx p s m args meth c cX9_readAtom 4 wsL_law RX9 (some .boolean) D G ad) (n : Nat)  (FS : Int32 → St → Option (Int32 × St))  (kk : Nat) (hkk : 8 ≤ kk) (hFS : ∀ (a : Int32) (st : St) (q : Int32 × St) (sz : Nat), FS a st = some q → CtI l yX9_readSum (wsU yX9_readSum cX9_readSum 5 (some .boolean)) (rmK kk) D G ad sz [.ref (ad 15), .int a] st q)  (st : St) (res : (Int32 × St))  (hf : fX9_readAtom_s40 n  FS  st = some res) : At p l e (rmK (kk + 1)) s m args below meth c D G ad (MQI D G ad below args s res) 4 st [(0, .ref (ad 15))] 40 [] := by
  obtain ⟨hx, hb, hml, hown, hts, hr, hlk, hK, had, hSt⟩ := id C
  intro H locs ls hl hP hS
  unfold fX9_readAtom_s40 at hf
  refine lv_aload_n hx hb dX9_readAtom_40 rfl (lv_at hl 0 rfl) ?_
  refine lv_bipush (v := 41) hx hb dX9_readAtom_41 (by decide) ?_
  obtain ⟨q, hq, hf⟩ := bd hf
  refine gcV_i (k := 1) (o := 15) (As := [.int 41]) (rest := []) hx hb hml hown hts hK hSt hP hS hl.1 (goodV wm_27_7 wm_27_8 wm_27_9 wm_1_23 wm_27_10) okX9_take ct_15 rfl rfl (by omega) (Nat.le_of_ble_eq_true rfl) rfl rfl (Nat.le_of_ble_eq_true rfl) dX9_readAtom_43 (kX9_take l D G ad had n  41 st q hq) (fun H locs hP hS => ?_)
  exact wX9_readAtom_s46 C n FS q.1 kk hkk hFS q.2 res hf H locs ls (lv_sub hl [] rfl) hP hS
def fX9_readAtom_s37 (n : Nat)  (FS : Int32 → St → Option (Int32 × St)) (k0 : Int32) (st : St) : Option (Int32 × St) := if k0 = 0 then fX9_readAtom_s53 n FS st else fX9_readAtom_s40 n FS st
set_option maxHeartbeats 4000000 in
set_option maxRecDepth 100000 in
theorem wX9_readAtom_s37 (C : Cx p s m args meth c cX9_readAtom 4 wsL_law RX9 (some .boolean) D G ad) (n : Nat)  (FS : Int32 → St → Option (Int32 × St)) (k0 : Int32) (kk : Nat) (hkk : 8 ≤ kk) (hFS : ∀ (a : Int32) (st : St) (q : Int32 × St) (sz : Nat), FS a st = some q → CtI l yX9_readSum (wsU yX9_readSum cX9_readSum 5 (some .boolean)) (rmK kk) D G ad sz [.ref (ad 15), .int a] st q)  (st : St) (res : (Int32 × St))  (hf : fX9_readAtom_s37 n  FS k0 st = some res) : At p l e (rmK (kk + 1)) s m args below meth c D G ad (MQI D G ad below args s res) 4 st [(0, .ref (ad 15))] 37 [.int k0] := by
  obtain ⟨hx, hb, hml, hown, hts, hr, hlk, hK, had, hSt⟩ := id C
  intro H locs ls hl hP hS
  unfold fX9_readAtom_s37 at hf
  refine lv_if_eq (tgt := 53) hx hb dX9_readAtom_37 (by decide) (fun q => ?_) (fun q => ?_)
  · exact wX9_readAtom_s53 C n FS kk hkk hFS st res (it hf q) H locs ls (lv_sub hl [] rfl) hP hS
  · exact wX9_readAtom_s40 C n FS kk hkk hFS st res (ie hf q) H locs ls (lv_sub hl [0] rfl) hP hS
def fX9_readAtom_s30 (n : Nat)  (FS : Int32 → St → Option (Int32 × St)) (v1 : Int32) (st : St) : Option (Int32 × St) := (FS (v1 + 1) st).bind (fun q => fX9_readAtom_s37 n FS q.1 q.2)
set_option maxHeartbeats 4000000 in
set_option maxRecDepth 100000 in
theorem wX9_readAtom_s30 (C : Cx p s m args meth c cX9_readAtom 4 wsL_law RX9 (some .boolean) D G ad) (n : Nat)  (FS : Int32 → St → Option (Int32 × St)) (v1 : Int32) (kk : Nat) (hkk : 8 ≤ kk) (hFS : ∀ (a : Int32) (st : St) (q : Int32 × St) (sz : Nat), FS a st = some q → CtI l yX9_readSum (wsU yX9_readSum cX9_readSum 5 (some .boolean)) (rmK kk) D G ad sz [.ref (ad 15), .int a] st q)  (st : St) (res : (Int32 × St))  (hf : fX9_readAtom_s30 n  FS v1 st = some res) : At p l e (rmK (kk + 1)) s m args below meth c D G ad (MQI D G ad below args s res) 4 st [(0, .ref (ad 15)), (1, .int v1)] 30 [] := by
  obtain ⟨hx, hb, hml, hown, hts, hr, hlk, hK, had, hSt⟩ := id C
  intro H locs ls hl hP hS
  unfold fX9_readAtom_s30 at hf
  refine lv_aload_n hx hb dX9_readAtom_30 rfl (lv_at hl 0 rfl) ?_
  refine lv_iload_n hx hb dX9_readAtom_31 rfl (lv_at hl 1 rfl) ?_
  refine lv_iconst (v := 1) hx hb dX9_readAtom_32 (by decide) ?_
  refine lv_iadd hx hb dX9_readAtom_33 ?_
  obtain ⟨q, hq, hf⟩ := bd hf
  refine gcV_i (k := kk) (o := 15) (As := [.int (v1 + 1)]) (rest := []) hx hb hml hown hts hK hSt hP hS hl.1 (goodV wm_26_3 wm_26_4 wm_26_5 wm_1_23 wm_26_6) okX9_readSum ct_15 rfl rfl (by omega) (Nat.le_of_ble_eq_true rfl) rfl rfl (Nat.le_of_ble_eq_true rfl) dX9_readAtom_34 (hFS _ _ _ _ hq) (fun H locs hP hS => ?_)
  exact wX9_readAtom_s37 C n FS q.1 kk hkk hFS q.2 res hf H locs ls (lv_sub hl [0] rfl) hP hS
def fX9_readAtom_s27 (n : Nat)  (FS : Int32 → St → Option (Int32 × St)) (v1 : Int32) (k0 : Int32) (st : St) : Option (Int32 × St) := if k0 = 0 then fX9_readAtom_s53 n FS st else fX9_readAtom_s30 n FS v1 st
set_option maxHeartbeats 4000000 in
set_option maxRecDepth 100000 in
theorem wX9_readAtom_s27 (C : Cx p s m args meth c cX9_readAtom 4 wsL_law RX9 (some .boolean) D G ad) (n : Nat)  (FS : Int32 → St → Option (Int32 × St)) (v1 : Int32) (k0 : Int32) (kk : Nat) (hkk : 8 ≤ kk) (hFS : ∀ (a : Int32) (st : St) (q : Int32 × St) (sz : Nat), FS a st = some q → CtI l yX9_readSum (wsU yX9_readSum cX9_readSum 5 (some .boolean)) (rmK kk) D G ad sz [.ref (ad 15), .int a] st q)  (st : St) (res : (Int32 × St))  (hf : fX9_readAtom_s27 n  FS v1 k0 st = some res) : At p l e (rmK (kk + 1)) s m args below meth c D G ad (MQI D G ad below args s res) 4 st [(0, .ref (ad 15)), (1, .int v1)] 27 [.int k0] := by
  obtain ⟨hx, hb, hml, hown, hts, hr, hlk, hK, had, hSt⟩ := id C
  intro H locs ls hl hP hS
  unfold fX9_readAtom_s27 at hf
  refine lv_if_eq (tgt := 53) hx hb dX9_readAtom_27 (by decide) (fun q => ?_) (fun q => ?_)
  · exact wX9_readAtom_s53 C n FS kk hkk hFS st res (it hf q) H locs ls (lv_sub hl [] rfl) hP hS
  · exact wX9_readAtom_s30 C n FS v1 kk hkk hFS st res (ie hf q) H locs ls (lv_sub hl [0, 1] rfl) hP hS
def fX9_readAtom_s22 (n : Nat)  (FS : Int32 → St → Option (Int32 × St)) (v1 : Int32) (st : St) : Option (Int32 × St) := (fX9_openOne n v1 st).bind (fun q => fX9_readAtom_s27 n FS v1 q.1 q.2)
set_option maxHeartbeats 4000000 in
set_option maxRecDepth 100000 in
theorem wX9_readAtom_s22 (C : Cx p s m args meth c cX9_readAtom 4 wsL_law RX9 (some .boolean) D G ad) (n : Nat)  (FS : Int32 → St → Option (Int32 × St)) (v1 : Int32) (kk : Nat) (hkk : 8 ≤ kk) (hFS : ∀ (a : Int32) (st : St) (q : Int32 × St) (sz : Nat), FS a st = some q → CtI l yX9_readSum (wsU yX9_readSum cX9_readSum 5 (some .boolean)) (rmK kk) D G ad sz [.ref (ad 15), .int a] st q)  (st : St) (res : (Int32 × St))  (hf : fX9_readAtom_s22 n  FS v1 st = some res) : At p l e (rmK (kk + 1)) s m args below meth c D G ad (MQI D G ad below args s res) 4 st [(0, .ref (ad 15)), (1, .int v1)] 22 [] := by
  obtain ⟨hx, hb, hml, hown, hts, hr, hlk, hK, had, hSt⟩ := id C
  intro H locs ls hl hP hS
  unfold fX9_readAtom_s22 at hf
  refine lv_aload_n hx hb dX9_readAtom_22 rfl (lv_at hl 0 rfl) ?_
  refine lv_iload_n hx hb dX9_readAtom_23 rfl (lv_at hl 1 rfl) ?_
  obtain ⟨q, hq, hf⟩ := bd hf
  refine gcV_i (k := 2) (o := 15) (As := [.int v1]) (rest := []) hx hb hml hown hts hK hSt hP hS hl.1 (goodV wm_27_3 wm_27_4 wm_27_5 wm_1_23 wm_27_6) okX9_openOne ct_15 rfl rfl (by omega) (Nat.le_of_ble_eq_true rfl) rfl rfl (Nat.le_of_ble_eq_true rfl) dX9_readAtom_24 (kX9_openOne l D G ad had n  v1 st q hq) (fun H locs hP hS => ?_)
  exact wX9_readAtom_s27 C n FS v1 q.1 kk hkk hFS q.2 res hf H locs ls (lv_sub hl [0, 1] rfl) hP hS
def fX9_readAtom_s19 (n : Nat)  (FS : Int32 → St → Option (Int32 × St)) (v1 : Int32) (k0 : Int32) (st : St) : Option (Int32 × St) := if k0 = 0 then fX9_readAtom_s55 n FS v1 st else fX9_readAtom_s22 n FS v1 st
set_option maxHeartbeats 4000000 in
set_option maxRecDepth 100000 in
theorem wX9_readAtom_s19 (C : Cx p s m args meth c cX9_readAtom 4 wsL_law RX9 (some .boolean) D G ad) (n : Nat)  (FS : Int32 → St → Option (Int32 × St)) (v1 : Int32) (k0 : Int32) (kk : Nat) (hkk : 8 ≤ kk) (hFS : ∀ (a : Int32) (st : St) (q : Int32 × St) (sz : Nat), FS a st = some q → CtI l yX9_readSum (wsU yX9_readSum cX9_readSum 5 (some .boolean)) (rmK kk) D G ad sz [.ref (ad 15), .int a] st q)  (st : St) (res : (Int32 × St))  (hf : fX9_readAtom_s19 n  FS v1 k0 st = some res) : At p l e (rmK (kk + 1)) s m args below meth c D G ad (MQI D G ad below args s res) 4 st [(0, .ref (ad 15)), (1, .int v1)] 19 [.int k0] := by
  obtain ⟨hx, hb, hml, hown, hts, hr, hlk, hK, had, hSt⟩ := id C
  intro H locs ls hl hP hS
  unfold fX9_readAtom_s19 at hf
  refine lv_if_eq (tgt := 55) hx hb dX9_readAtom_19 (by decide) (fun q => ?_) (fun q => ?_)
  · exact wX9_readAtom_s55 C n FS v1 kk hkk hFS st res (it hf q) H locs ls (lv_sub hl [0, 1] rfl) hP hS
  · exact wX9_readAtom_s22 C n FS v1 kk hkk hFS st res (ie hf q) H locs ls (lv_sub hl [0, 1] rfl) hP hS
def fX9_readAtom_s13 (n : Nat)  (FS : Int32 → St → Option (Int32 × St)) (v1 : Int32) (st : St) : Option (Int32 × St) := (fX9_isNext n 40 st).bind (fun q => fX9_readAtom_s19 n FS v1 q.1 q.2)
set_option maxHeartbeats 4000000 in
set_option maxRecDepth 100000 in
theorem wX9_readAtom_s13 (C : Cx p s m args meth c cX9_readAtom 4 wsL_law RX9 (some .boolean) D G ad) (n : Nat)  (FS : Int32 → St → Option (Int32 × St)) (v1 : Int32) (kk : Nat) (hkk : 8 ≤ kk) (hFS : ∀ (a : Int32) (st : St) (q : Int32 × St) (sz : Nat), FS a st = some q → CtI l yX9_readSum (wsU yX9_readSum cX9_readSum 5 (some .boolean)) (rmK kk) D G ad sz [.ref (ad 15), .int a] st q)  (st : St) (res : (Int32 × St))  (hf : fX9_readAtom_s13 n  FS v1 st = some res) : At p l e (rmK (kk + 1)) s m args below meth c D G ad (MQI D G ad below args s res) 4 st [(0, .ref (ad 15)), (1, .int v1)] 13 [] := by
  obtain ⟨hx, hb, hml, hown, hts, hr, hlk, hK, had, hSt⟩ := id C
  intro H locs ls hl hP hS
  unfold fX9_readAtom_s13 at hf
  refine lv_aload_n hx hb dX9_readAtom_13 rfl (lv_at hl 0 rfl) ?_
  refine lv_bipush (v := 40) hx hb dX9_readAtom_14 (by decide) ?_
  obtain ⟨q, hq, hf⟩ := bd hf
  refine gcV_i (k := 0) (o := 15) (As := [.int 40]) (rest := []) hx hb hml hown hts hK hSt hP hS hl.1 (goodV wm_26_10 wm_26_11 wm_26_12 wm_1_23 wm_26_13) okX9_isNext ct_15 rfl rfl (by omega) (Nat.le_of_ble_eq_true rfl) rfl rfl (Nat.le_of_ble_eq_true rfl) dX9_readAtom_16 (kX9_isNext l D G ad had n  40 st q hq) (fun H locs hP hS => ?_)
  exact wX9_readAtom_s19 C n FS v1 q.1 kk hkk hFS q.2 res hf H locs ls (lv_sub hl [0, 1] rfl) hP hS
def fX9_readAtom_s11 (n : Nat)  (FS : Int32 → St → Option (Int32 × St))  (st : St) : Option (Int32 × St) := some (1, st)
set_option maxHeartbeats 4000000 in
set_option maxRecDepth 100000 in
theorem wX9_readAtom_s11 (C : Cx p s m args meth c cX9_readAtom 4 wsL_law RX9 (some .boolean) D G ad) (n : Nat)  (FS : Int32 → St → Option (Int32 × St))  (kk : Nat) (hkk : 8 ≤ kk) (hFS : ∀ (a : Int32) (st : St) (q : Int32 × St) (sz : Nat), FS a st = some q → CtI l yX9_readSum (wsU yX9_readSum cX9_readSum 5 (some .boolean)) (rmK kk) D G ad sz [.ref (ad 15), .int a] st q)  (st : St) (res : (Int32 × St))  (hf : fX9_readAtom_s11 n  FS  st = some res) : At p l e (rmK (kk + 1)) s m args below meth c D G ad (MQI D G ad below args s res) 4 st [] 11 [] := by
  obtain ⟨hx, hb, hml, hown, hts, hr, hlk, hK, had, hSt⟩ := id C
  intro H locs ls hl hP hS
  unfold fX9_readAtom_s11 at hf
  refine lv_iconst (v := 1) hx hb dX9_readAtom_11 (by decide) ?_
  exact g_zret hx hb hr hlk hP hS (Or.inr rfl) dX9_readAtom_12 hf
def fX9_readAtom_s7 (n : Nat)  (FS : Int32 → St → Option (Int32 × St))  (st : St) : Option (Int32 × St) := (fX9_readNumber n st).bind (fun q => fX9_readAtom_s11 n FS q.2)
set_option maxHeartbeats 4000000 in
set_option maxRecDepth 100000 in
theorem wX9_readAtom_s7 (C : Cx p s m args meth c cX9_readAtom 4 wsL_law RX9 (some .boolean) D G ad) (n : Nat)  (FS : Int32 → St → Option (Int32 × St))  (kk : Nat) (hkk : 8 ≤ kk) (hFS : ∀ (a : Int32) (st : St) (q : Int32 × St) (sz : Nat), FS a st = some q → CtI l yX9_readSum (wsU yX9_readSum cX9_readSum 5 (some .boolean)) (rmK kk) D G ad sz [.ref (ad 15), .int a] st q)  (st : St) (res : (Int32 × St))  (hf : fX9_readAtom_s7 n  FS  st = some res) : At p l e (rmK (kk + 1)) s m args below meth c D G ad (MQI D G ad below args s res) 4 st [(0, .ref (ad 15))] 7 [] := by
  obtain ⟨hx, hb, hml, hown, hts, hr, hlk, hK, had, hSt⟩ := id C
  intro H locs ls hl hP hS
  unfold fX9_readAtom_s7 at hf
  refine lv_aload_n hx hb dX9_readAtom_7 rfl (lv_at hl 0 rfl) ?_
  obtain ⟨q, hq, hf⟩ := bd hf
  refine gcV_v (k := 1) (o := 15) (As := []) (rest := []) hx hb hml hown hts hK hSt hP hS hl.1 (goodV wm_26_23 wm_27_0 wm_27_1 wm_1_23 wm_27_2) okX9_readNumber ct_15 rfl rfl (by omega) (Nat.le_of_ble_eq_true rfl) rfl rfl (Nat.le_of_ble_eq_true rfl) dX9_readAtom_8 (kX9_readNumber l D G ad had n   st q hq) (fun H locs hP hS => ?_)
  exact wX9_readAtom_s11 C n FS kk hkk hFS q.2 res hf H locs ls (lv_sub hl [] rfl) hP hS
def fX9_readAtom_s4 (n : Nat)  (FS : Int32 → St → Option (Int32 × St)) (v1 : Int32) (k0 : Int32) (st : St) : Option (Int32 × St) := if k0 = 0 then fX9_readAtom_s13 n FS v1 st else fX9_readAtom_s7 n FS st
set_option maxHeartbeats 4000000 in
set_option maxRecDepth 100000 in
theorem wX9_readAtom_s4 (C : Cx p s m args meth c cX9_readAtom 4 wsL_law RX9 (some .boolean) D G ad) (n : Nat)  (FS : Int32 → St → Option (Int32 × St)) (v1 : Int32) (k0 : Int32) (kk : Nat) (hkk : 8 ≤ kk) (hFS : ∀ (a : Int32) (st : St) (q : Int32 × St) (sz : Nat), FS a st = some q → CtI l yX9_readSum (wsU yX9_readSum cX9_readSum 5 (some .boolean)) (rmK kk) D G ad sz [.ref (ad 15), .int a] st q)  (st : St) (res : (Int32 × St))  (hf : fX9_readAtom_s4 n  FS v1 k0 st = some res) : At p l e (rmK (kk + 1)) s m args below meth c D G ad (MQI D G ad below args s res) 4 st [(0, .ref (ad 15)), (1, .int v1)] 4 [.int k0] := by
  obtain ⟨hx, hb, hml, hown, hts, hr, hlk, hK, had, hSt⟩ := id C
  intro H locs ls hl hP hS
  unfold fX9_readAtom_s4 at hf
  refine lv_if_eq (tgt := 13) hx hb dX9_readAtom_4 (by decide) (fun q => ?_) (fun q => ?_)
  · exact wX9_readAtom_s13 C n FS v1 kk hkk hFS st res (it hf q) H locs ls (lv_sub hl [0, 1] rfl) hP hS
  · exact wX9_readAtom_s7 C n FS kk hkk hFS st res (ie hf q) H locs ls (lv_sub hl [0] rfl) hP hS
def fX9_readAtom_s0 (n : Nat)  (FS : Int32 → St → Option (Int32 × St)) (v1 : Int32) (st : St) : Option (Int32 × St) := (fX9_isDigit n st).bind (fun q => fX9_readAtom_s4 n FS v1 q.1 q.2)
set_option maxHeartbeats 4000000 in
set_option maxRecDepth 100000 in
theorem wX9_readAtom_s0 (C : Cx p s m args meth c cX9_readAtom 4 wsL_law RX9 (some .boolean) D G ad) (n : Nat)  (FS : Int32 → St → Option (Int32 × St)) (v1 : Int32) (kk : Nat) (hkk : 8 ≤ kk) (hFS : ∀ (a : Int32) (st : St) (q : Int32 × St) (sz : Nat), FS a st = some q → CtI l yX9_readSum (wsU yX9_readSum cX9_readSum 5 (some .boolean)) (rmK kk) D G ad sz [.ref (ad 15), .int a] st q)  (st : St) (res : (Int32 × St))  (hf : fX9_readAtom_s0 n  FS v1 st = some res) : At p l e (rmK (kk + 1)) s m args below meth c D G ad (MQI D G ad below args s res) 4 st [(0, .ref (ad 15)), (1, .int v1)] 0 [] := by
  obtain ⟨hx, hb, hml, hown, hts, hr, hlk, hK, had, hSt⟩ := id C
  intro H locs ls hl hP hS
  unfold fX9_readAtom_s0 at hf
  refine lv_aload_n hx hb dX9_readAtom_0 rfl (lv_at hl 0 rfl) ?_
  obtain ⟨q, hq, hf⟩ := bd hf
  refine gcV_i (k := 0) (o := 15) (As := []) (rest := []) hx hb hml hown hts hK hSt hP hS hl.1 (goodV wm_26_19 wm_26_20 wm_26_21 wm_1_23 wm_26_22) okX9_isDigit ct_15 rfl rfl (by omega) (Nat.le_of_ble_eq_true rfl) rfl rfl (Nat.le_of_ble_eq_true rfl) dX9_readAtom_1 (kX9_isDigit l D G ad had n   st q hq) (fun H locs hP hS => ?_)
  exact wX9_readAtom_s4 C n FS v1 q.1 kk hkk hFS q.2 res hf H locs ls (lv_sub hl [0, 1] rfl) hP hS
def fX9_readAtom (n : Nat) (FS : Int32 → St → Option (Int32 × St)) (a1 : Int32) (st : St) : Option (Int32 × St) := fX9_readAtom_s0 n FS a1 st
theorem okX9_readAtom : okY yX9_readAtom RX9 1 := by unfold okY; decide +kernel
end
set_option maxRecDepth 100000 in
theorem kX9_readAtom (l : Launch) (D : va_G) (G : G3) (ad : Nat → Nat) (had : Adr ad) (n : Nat) (FS : Int32 → St → Option (Int32 × St)) (kk : Nat) (hkk : 8 ≤ kk) (hFS : ∀ (a : Int32) (st : St) (q : Int32 × St) (sz : Nat), FS a st = some q → CtI l yX9_readSum (wsU yX9_readSum cX9_readSum 5 (some .boolean)) (rmK kk) D G ad sz [.ref (ad 15), .int a] st q) (a1 : Int32) (st : St) (res : (Int32 × St)) (hf : fX9_readAtom n FS a1 st = some res) {sz : Nat} : CtI l yX9_readAtom (wsU yX9_readAtom cX9_readAtom 4 (some .boolean)) (rmK (kk + 1)) D G ad sz [.ref (ad 15), .int a1] st res := by
  refine Met.ofW (cc := cX9_readAtom) (maxL := 4) (ret := (some .boolean)) (by decide) rfl ?_
  intro p e s m args below meth c s₁ B hml hv
  obtain ⟨rfl, hsz, hP, hK, hSt⟩ := hv
  have hts := atoms_spec (ws := wsU yX9_readAtom cX9_readAtom 4 (some .boolean)) B.pre
  have C : Cx p s m _ meth c cX9_readAtom 4 wsL_law RX9 (some .boolean) D G ad := ⟨B.exec, B.bytes, hml, findClass_of_methodNamed B.named, fun w h => hts w (List.mem_cons_of_mem _ h), B.returns, B.notSynchronized, hK, had, hSt⟩
  subst hsz
  have hl := lv_entry ([.ref (ad 15), .int a1]) (n := 4) (Nat.le_of_ble_eq_true rfl)
  rw [lg_entry_eq]
  generalize (lg_sl ([.ref (ad 15), .int a1]) ++ List.replicate (4 - (lg_sl ([.ref (ad 15), .int a1])).length) Slot.unset).toArray = ls at hl ⊢
  exact wX9_readAtom_s0 C n FS a1 kk hkk hFS  st res hf s.heap [] ls (lv_sub hl [0, 1] rfl) hP va_S.rf
section
variable {p : Program} {l : Launch} {e : Env} {s : State} {m : MethodId} {args : Array Value} {below : List Frame} {meth : Method} {c : Code} {D : va_G} {G : G3} {ad : Nat → Nat}
def fX9_readProduct_s82 (n : Nat)  (FS : Int32 → St → Option (Int32 × St)) (v2 : Int32) (st : St) : Option (Int32 × St) := if zb v2 = true then (some (v2, st)) else none
set_option maxHeartbeats 4000000 in
set_option maxRecDepth 100000 in
theorem wX9_readProduct_s82 (C : Cx p s m args meth c cX9_readProduct 5 wsL_law RX9 (some .boolean) D G ad) (n : Nat)  (FS : Int32 → St → Option (Int32 × St)) (v2 : Int32) (kk : Nat) (hkk : 8 ≤ kk) (hFS : ∀ (a : Int32) (st : St) (q : Int32 × St) (sz : Nat), FS a st = some q → CtI l yX9_readSum (wsU yX9_readSum cX9_readSum 5 (some .boolean)) (rmK kk) D G ad sz [.ref (ad 15), .int a] st q)  (st : St) (res : (Int32 × St))  (hf : fX9_readProduct_s82 n  FS v2 st = some res) : At p l e (rmK (kk + 2)) s m args below meth c D G ad (MQI D G ad below args s res) 5 st [(2, .int v2)] 82 [] := by
  obtain ⟨hx, hb, hml, hown, hts, hr, hlk, hK, had, hSt⟩ := id C
  intro H locs ls hl hP hS
  unfold fX9_readProduct_s82 at hf
  refine lv_iload_n hx hb dX9_readProduct_82 rfl (lv_at hl 0 rfl) ?_
  obtain ⟨gz, hf⟩ := gd hf
  exact g_zret hx hb hr hlk hP hS (zb_of gz) dX9_readProduct_83 hf
def fX9_readProduct_s76 (n : Nat) (K8 : Int32 → Int32 → Int32 → St → Option (Int32 × St)) (FS : Int32 → St → Option (Int32 × St)) (v1 : Int32) (v2 : Int32) (v3 : Int32) (st : St) : Option (Int32 × St) := K8 v1 v2 (v3 + 1) st
set_option maxHeartbeats 4000000 in
set_option maxRecDepth 100000 in
theorem wX9_readProduct_s76 (C : Cx p s m args meth c cX9_readProduct 5 wsL_law RX9 (some .boolean) D G ad) (n : Nat) (K8 : Int32 → Int32 → Int32 → St → Option (Int32 × St)) (FS : Int32 → St → Option (Int32 × St)) (v1 : Int32) (v2 : Int32) (v3 : Int32) (kk : Nat) (hkk : 8 ≤ kk) (hFS : ∀ (a : Int32) (st : St) (q : Int32 × St) (sz : Nat), FS a st = some q → CtI l yX9_readSum (wsU yX9_readSum cX9_readSum 5 (some .boolean)) (rmK kk) D G ad sz [.ref (ad 15), .int a] st q)  (st : St) (res : (Int32 × St)) (hK8 : ∀ (v1 : Int32) (v2 : Int32) (v3 : Int32) (st : St), K8 v1 v2 v3 st = some res → At p l e (rmK (kk + 2)) s m args below meth c D G ad (MQI D G ad below args s res) 5 st [(0, .ref (ad 15)), (1, .int v1), (2, .int v2), (3, .int v3)] 8 []) (hf : fX9_readProduct_s76 n K8 FS v1 v2 v3 st = some res) : At p l e (rmK (kk + 2)) s m args below meth c D G ad (MQI D G ad below args s res) 5 st [(0, .ref (ad 15)), (1, .int v1), (2, .int v2), (3, .int v3)] 76 [] := by
  obtain ⟨hx, hb, hml, hown, hts, hr, hlk, hK, had, hSt⟩ := id C
  intro H locs ls hl hP hS
  unfold fX9_readProduct_s76 at hf
  refine lv_iinc (v := v3 + 1) (lv' := [(3, .int (v3 + 1)), (0, .ref (ad 15)), (1, .int v1), (2, .int v2)]) hx hb dX9_readProduct_76 hl (k := 3) rfl rfl (by decide) rfl (fun ls hl => ?_)
  refine lv_goto (tgt := 8) hx hb dX9_readProduct_79 (by decide) ?_
  exact hK8 v1 v2 (v3 + 1)  st hf H locs ls (lv_sub hl [1, 2, 3, 0] rfl) hP hS
def fX9_readProduct_s69 (n : Nat) (K8 : Int32 → Int32 → Int32 → St → Option (Int32 × St)) (FS : Int32 → St → Option (Int32 × St)) (v1 : Int32) (v3 : Int32) (v4 : Int32) (k0 : Int32) (st : St) : Option (Int32 × St) := (fX9_emit n v4 st).bind (fun q => fX9_readProduct_s76 n K8 FS v1 k0 v3 q.2)
set_option maxHeartbeats 4000000 in
set_option maxRecDepth 100000 in
theorem wX9_readProduct_s69 (C : Cx p s m args meth c cX9_readProduct 5 wsL_law RX9 (some .boolean) D G ad) (n : Nat) (K8 : Int32 → Int32 → Int32 → St → Option (Int32 × St)) (FS : Int32 → St → Option (Int32 × St)) (v1 : Int32) (v3 : Int32) (v4 : Int32) (k0 : Int32) (kk : Nat) (hkk : 8 ≤ kk) (hFS : ∀ (a : Int32) (st : St) (q : Int32 × St) (sz : Nat), FS a st = some q → CtI l yX9_readSum (wsU yX9_readSum cX9_readSum 5 (some .boolean)) (rmK kk) D G ad sz [.ref (ad 15), .int a] st q)  (st : St) (res : (Int32 × St)) (hK8 : ∀ (v1 : Int32) (v2 : Int32) (v3 : Int32) (st : St), K8 v1 v2 v3 st = some res → At p l e (rmK (kk + 2)) s m args below meth c D G ad (MQI D G ad below args s res) 5 st [(0, .ref (ad 15)), (1, .int v1), (2, .int v2), (3, .int v3)] 8 []) (hf : fX9_readProduct_s69 n K8 FS v1 v3 v4 k0 st = some res) : At p l e (rmK (kk + 2)) s m args below meth c D G ad (MQI D G ad below args s res) 5 st [(0, .ref (ad 15)), (1, .int v1), (3, .int v3), (4, .int v4)] 69 [.int k0] := by
  obtain ⟨hx, hb, hml, hown, hts, hr, hlk, hK, had, hSt⟩ := id C
  intro H locs ls hl hP hS
  unfold fX9_readProduct_s69 at hf
  refine lv_istore_n (lv' := [(2, .int k0), (0, .ref (ad 15)), (1, .int v1), (3, .int v3), (4, .int v4)]) hx hb dX9_readProduct_69 rfl hl (by decide) rfl (fun ls hl => ?_)
  refine lv_aload_n hx hb dX9_readProduct_70 rfl (lv_at hl 1 rfl) ?_
  refine lv_iload hx hb dX9_readProduct_71 (lv_at hl 4 rfl) ?_
  obtain ⟨q, hq, hf⟩ := bd hf
  refine gcV_v (k := 0) (o := 15) (As := [.int v4]) (rest := []) hx hb hml hown hts hK hSt hP hS hl.1 (goodV wm_26_14 wm_26_15 wm_26_16 wm_1_23 wm_26_17) okX9_emit ct_15 rfl rfl (by omega) (Nat.le_of_ble_eq_true rfl) rfl rfl (Nat.le_of_ble_eq_true rfl) dX9_readProduct_73 (kX9_emit l D G ad had n  v4 st q hq) (fun H locs hP hS => ?_)
  exact wX9_readProduct_s76 C n K8 FS v1 k0 v3 kk hkk hFS q.2 res hK8 hf H locs ls (lv_sub hl [1, 2, 0, 3] rfl) hP hS
def fX9_readProduct_s64 (n : Nat) (K8 : Int32 → Int32 → Int32 → St → Option (Int32 × St)) (FS : Int32 → St → Option (Int32 × St)) (v1 : Int32) (v3 : Int32) (v4 : Int32) (st : St) : Option (Int32 × St) := (fX9_readAtom n FS v1 st).bind (fun q => fX9_readProduct_s69 n K8 FS v1 v3 v4 q.1 q.2)
set_option maxHeartbeats 4000000 in
set_option maxRecDepth 100000 in
theorem wX9_readProduct_s64 (C : Cx p s m args meth c cX9_readProduct 5 wsL_law RX9 (some .boolean) D G ad) (n : Nat) (K8 : Int32 → Int32 → Int32 → St → Option (Int32 × St)) (FS : Int32 → St → Option (Int32 × St)) (v1 : Int32) (v3 : Int32) (v4 : Int32) (kk : Nat) (hkk : 8 ≤ kk) (hFS : ∀ (a : Int32) (st : St) (q : Int32 × St) (sz : Nat), FS a st = some q → CtI l yX9_readSum (wsU yX9_readSum cX9_readSum 5 (some .boolean)) (rmK kk) D G ad sz [.ref (ad 15), .int a] st q)  (st : St) (res : (Int32 × St)) (hK8 : ∀ (v1 : Int32) (v2 : Int32) (v3 : Int32) (st : St), K8 v1 v2 v3 st = some res → At p l e (rmK (kk + 2)) s m args below meth c D G ad (MQI D G ad below args s res) 5 st [(0, .ref (ad 15)), (1, .int v1), (2, .int v2), (3, .int v3)] 8 []) (hf : fX9_readProduct_s64 n K8 FS v1 v3 v4 st = some res) : At p l e (rmK (kk + 2)) s m args below meth c D G ad (MQI D G ad below args s res) 5 st [(0, .ref (ad 15)), (1, .int v1), (3, .int v3), (4, .int v4)] 64 [] := by
  obtain ⟨hx, hb, hml, hown, hts, hr, hlk, hK, had, hSt⟩ := id C
  intro H locs ls hl hP hS
  unfold fX9_readProduct_s64 at hf
  refine lv_aload_n hx hb dX9_readProduct_64 rfl (lv_at hl 0 rfl) ?_
  refine lv_iload_n hx hb dX9_readProduct_65 rfl (lv_at hl 1 rfl) ?_
  obtain ⟨q, hq, hf⟩ := bd hf
  refine gcV_i (k := (kk + 1)) (o := 15) (As := [.int v1]) (rest := []) hx hb hml hown hts hK hSt hP hS hl.1 (goodV wm_29_18 wm_29_19 wm_29_20 wm_1_23 wm_26_18) okX9_readAtom ct_15 rfl rfl (by omega) (Nat.le_of_ble_eq_true rfl) rfl rfl (Nat.le_of_ble_eq_true rfl) dX9_readProduct_66 (kX9_readAtom l D G ad had n FS kk hkk hFS v1 st q hq) (fun H locs hP hS => ?_)
  exact wX9_readProduct_s69 C n K8 FS v1 v3 v4 q.1 kk hkk hFS q.2 res hK8 hf H locs ls (lv_sub hl [0, 1, 2, 3] rfl) hP hS
def fX9_readProduct_s52 (n : Nat) (K8 : Int32 → Int32 → Int32 → St → Option (Int32 × St)) (FS : Int32 → St → Option (Int32 × St)) (v1 : Int32) (v3 : Int32) (k0 : Int32) (st : St) : Option (Int32 × St) := fX9_readProduct_s64 n K8 FS v1 v3 k0 (setI st 15 3 ((st.1 15 3) + 1))
set_option maxHeartbeats 4000000 in
set_option maxRecDepth 100000 in
theorem wX9_readProduct_s52 (C : Cx p s m args meth c cX9_readProduct 5 wsL_law RX9 (some .boolean) D G ad) (n : Nat) (K8 : Int32 → Int32 → Int32 → St → Option (Int32 × St)) (FS : Int32 → St → Option (Int32 × St)) (v1 : Int32) (v3 : Int32) (k0 : Int32) (kk : Nat) (hkk : 8 ≤ kk) (hFS : ∀ (a : Int32) (st : St) (q : Int32 × St) (sz : Nat), FS a st = some q → CtI l yX9_readSum (wsU yX9_readSum cX9_readSum 5 (some .boolean)) (rmK kk) D G ad sz [.ref (ad 15), .int a] st q)  (st : St) (res : (Int32 × St)) (hK8 : ∀ (v1 : Int32) (v2 : Int32) (v3 : Int32) (st : St), K8 v1 v2 v3 st = some res → At p l e (rmK (kk + 2)) s m args below meth c D G ad (MQI D G ad below args s res) 5 st [(0, .ref (ad 15)), (1, .int v1), (2, .int v2), (3, .int v3)] 8 []) (hf : fX9_readProduct_s52 n K8 FS v1 v3 k0 st = some res) : At p l e (rmK (kk + 2)) s m args below meth c D G ad (MQI D G ad below args s res) 5 st [(0, .ref (ad 15)), (1, .int v1), (3, .int v3)] 52 [.int k0] := by
  obtain ⟨hx, hb, hml, hown, hts, hr, hlk, hK, had, hSt⟩ := id C
  intro H locs ls hl hP hS
  unfold fX9_readProduct_s52 at hf
  refine lv_istore (lv' := [(4, .int k0), (0, .ref (ad 15)), (1, .int v1), (3, .int v3)]) hx hb dX9_readProduct_52 hl (by decide) rfl (fun ls hl => ?_)
  refine lv_aload_n hx hb dX9_readProduct_54 rfl (lv_at hl 1 rfl) ?_
  refine lv_dup hx hb dX9_readProduct_55 rfl ?_
  refine g_getI hx hb hts inlX9 hown hK hP 15 ct_15 rfl 3 (by decide) (hts _ wm_26_1) rfl dX9_readProduct_56 ?_
  refine lv_iconst (v := 1) hx hb dX9_readProduct_59 (by decide) ?_
  refine lv_iadd hx hb dX9_readProduct_60 ?_
  refine g_putI hx hb hts inlX9 tyX9_ok nmX9 hown hK had hP hS 15 ct_15 rfl 3 (by decide) (hts _ wm_26_1) rfl rfl rfl rfl rfl dX9_readProduct_61 (fun H locs hP hS => ?_)
  exact wX9_readProduct_s64 C n K8 FS v1 v3 k0 kk hkk hFS (setI st 15 3 ((st.1 15 3) + 1)) res hK8 hf H locs ls (lv_sub hl [1, 2, 3, 0] rfl) hP hS
def fX9_readProduct_s50 (n : Nat) (K8 : Int32 → Int32 → Int32 → St → Option (Int32 × St)) (FS : Int32 → St → Option (Int32 × St)) (v1 : Int32) (v3 : Int32) (st : St) : Option (Int32 × St) := fX9_readProduct_s52 n K8 FS v1 v3 (-11) st
set_option maxHeartbeats 4000000 in
set_option maxRecDepth 100000 in
theorem wX9_readProduct_s50 (C : Cx p s m args meth c cX9_readProduct 5 wsL_law RX9 (some .boolean) D G ad) (n : Nat) (K8 : Int32 → Int32 → Int32 → St → Option (Int32 × St)) (FS : Int32 → St → Option (Int32 × St)) (v1 : Int32) (v3 : Int32) (kk : Nat) (hkk : 8 ≤ kk) (hFS : ∀ (a : Int32) (st : St) (q : Int32 × St) (sz : Nat), FS a st = some q → CtI l yX9_readSum (wsU yX9_readSum cX9_readSum 5 (some .boolean)) (rmK kk) D G ad sz [.ref (ad 15), .int a] st q)  (st : St) (res : (Int32 × St)) (hK8 : ∀ (v1 : Int32) (v2 : Int32) (v3 : Int32) (st : St), K8 v1 v2 v3 st = some res → At p l e (rmK (kk + 2)) s m args below meth c D G ad (MQI D G ad below args s res) 5 st [(0, .ref (ad 15)), (1, .int v1), (2, .int v2), (3, .int v3)] 8 []) (hf : fX9_readProduct_s50 n K8 FS v1 v3 st = some res) : At p l e (rmK (kk + 2)) s m args below meth c D G ad (MQI D G ad below args s res) 5 st [(0, .ref (ad 15)), (1, .int v1), (3, .int v3)] 50 [] := by
  obtain ⟨hx, hb, hml, hown, hts, hr, hlk, hK, had, hSt⟩ := id C
  intro H locs ls hl hP hS
  unfold fX9_readProduct_s50 at hf
  refine lv_bipush (v := (-11)) hx hb dX9_readProduct_50 (by decide) ?_
  exact wX9_readProduct_s52 C n K8 FS v1 v3 (-11) kk hkk hFS st res hK8 hf H locs ls (lv_sub hl [0, 1, 2] rfl) hP hS
def fX9_readProduct_s45 (n : Nat) (K8 : Int32 → Int32 → Int32 → St → Option (Int32 × St)) (FS : Int32 → St → Option (Int32 × St)) (v1 : Int32) (v3 : Int32) (st : St) : Option (Int32 × St) := fX9_readProduct_s52 n K8 FS v1 v3 (-10) st
set_option maxHeartbeats 4000000 in
set_option maxRecDepth 100000 in
theorem wX9_readProduct_s45 (C : Cx p s m args meth c cX9_readProduct 5 wsL_law RX9 (some .boolean) D G ad) (n : Nat) (K8 : Int32 → Int32 → Int32 → St → Option (Int32 × St)) (FS : Int32 → St → Option (Int32 × St)) (v1 : Int32) (v3 : Int32) (kk : Nat) (hkk : 8 ≤ kk) (hFS : ∀ (a : Int32) (st : St) (q : Int32 × St) (sz : Nat), FS a st = some q → CtI l yX9_readSum (wsU yX9_readSum cX9_readSum 5 (some .boolean)) (rmK kk) D G ad sz [.ref (ad 15), .int a] st q)  (st : St) (res : (Int32 × St)) (hK8 : ∀ (v1 : Int32) (v2 : Int32) (v3 : Int32) (st : St), K8 v1 v2 v3 st = some res → At p l e (rmK (kk + 2)) s m args below meth c D G ad (MQI D G ad below args s res) 5 st [(0, .ref (ad 15)), (1, .int v1), (2, .int v2), (3, .int v3)] 8 []) (hf : fX9_readProduct_s45 n K8 FS v1 v3 st = some res) : At p l e (rmK (kk + 2)) s m args below meth c D G ad (MQI D G ad below args s res) 5 st [(0, .ref (ad 15)), (1, .int v1), (3, .int v3)] 45 [] := by
  obtain ⟨hx, hb, hml, hown, hts, hr, hlk, hK, had, hSt⟩ := id C
  intro H locs ls hl hP hS
  unfold fX9_readProduct_s45 at hf
  refine lv_bipush (v := (-10)) hx hb dX9_readProduct_45 (by decide) ?_
  refine lv_goto (tgt := 52) hx hb dX9_readProduct_47 (by decide) ?_
  exact wX9_readProduct_s52 C n K8 FS v1 v3 (-10) kk hkk hFS st res hK8 hf H locs ls (lv_sub hl [0, 1, 2] rfl) hP hS
def fX9_readProduct_s42 (n : Nat) (K8 : Int32 → Int32 → Int32 → St → Option (Int32 × St)) (FS : Int32 → St → Option (Int32 × St)) (v1 : Int32) (v3 : Int32) (k0 : Int32) (st : St) : Option (Int32 × St) := if k0 = 0 then fX9_readProduct_s50 n K8 FS v1 v3 st else fX9_readProduct_s45 n K8 FS v1 v3 st
set_option maxHeartbeats 4000000 in
set_option maxRecDepth 100000 in
theorem wX9_readProduct_s42 (C : Cx p s m args meth c cX9_readProduct 5 wsL_law RX9 (some .boolean) D G ad) (n : Nat) (K8 : Int32 → Int32 → Int32 → St → Option (Int32 × St)) (FS : Int32 → St → Option (Int32 × St)) (v1 : Int32) (v3 : Int32) (k0 : Int32) (kk : Nat) (hkk : 8 ≤ kk) (hFS : ∀ (a : Int32) (st : St) (q : Int32 × St) (sz : Nat), FS a st = some q → CtI l yX9_readSum (wsU yX9_readSum cX9_readSum 5 (some .boolean)) (rmK kk) D G ad sz [.ref (ad 15), .int a] st q)  (st : St) (res : (Int32 × St)) (hK8 : ∀ (v1 : Int32) (v2 : Int32) (v3 : Int32) (st : St), K8 v1 v2 v3 st = some res → At p l e (rmK (kk + 2)) s m args below meth c D G ad (MQI D G ad below args s res) 5 st [(0, .ref (ad 15)), (1, .int v1), (2, .int v2), (3, .int v3)] 8 []) (hf : fX9_readProduct_s42 n K8 FS v1 v3 k0 st = some res) : At p l e (rmK (kk + 2)) s m args below meth c D G ad (MQI D G ad below args s res) 5 st [(0, .ref (ad 15)), (1, .int v1), (3, .int v3)] 42 [.int k0] := by
  obtain ⟨hx, hb, hml, hown, hts, hr, hlk, hK, had, hSt⟩ := id C
  intro H locs ls hl hP hS
  unfold fX9_readProduct_s42 at hf
  refine lv_if_eq (tgt := 50) hx hb dX9_readProduct_42 (by decide) (fun q => ?_) (fun q => ?_)
  · exact wX9_readProduct_s50 C n K8 FS v1 v3 kk hkk hFS st res hK8 (it hf q) H locs ls (lv_sub hl [0, 1, 2] rfl) hP hS
  · exact wX9_readProduct_s45 C n K8 FS v1 v3 kk hkk hFS st res hK8 (ie hf q) H locs ls (lv_sub hl [0, 1, 2] rfl) hP hS
def fX9_readProduct_s36 (n : Nat) (K8 : Int32 → Int32 → Int32 → St → Option (Int32 × St)) (FS : Int32 → St → Option (Int32 × St)) (v1 : Int32) (v3 : Int32) (st : St) : Option (Int32 × St) := (fX9_isNext n 42 st).bind (fun q => fX9_readProduct_s42 n K8 FS v1 v3 q.1 q.2)
set_option maxHeartbeats 4000000 in
set_option maxRecDepth 100000 in
theorem wX9_readProduct_s36 (C : Cx p s m args meth c cX9_readProduct 5 wsL_law RX9 (some .boolean) D G ad) (n : Nat) (K8 : Int32 → Int32 → Int32 → St → Option (Int32 × St)) (FS : Int32 → St → Option (Int32 × St)) (v1 : Int32) (v3 : Int32) (kk : Nat) (hkk : 8 ≤ kk) (hFS : ∀ (a : Int32) (st : St) (q : Int32 × St) (sz : Nat), FS a st = some q → CtI l yX9_readSum (wsU yX9_readSum cX9_readSum 5 (some .boolean)) (rmK kk) D G ad sz [.ref (ad 15), .int a] st q)  (st : St) (res : (Int32 × St)) (hK8 : ∀ (v1 : Int32) (v2 : Int32) (v3 : Int32) (st : St), K8 v1 v2 v3 st = some res → At p l e (rmK (kk + 2)) s m args below meth c D G ad (MQI D G ad below args s res) 5 st [(0, .ref (ad 15)), (1, .int v1), (2, .int v2), (3, .int v3)] 8 []) (hf : fX9_readProduct_s36 n K8 FS v1 v3 st = some res) : At p l e (rmK (kk + 2)) s m args below meth c D G ad (MQI D G ad below args s res) 5 st [(0, .ref (ad 15)), (1, .int v1), (3, .int v3)] 36 [] := by
  obtain ⟨hx, hb, hml, hown, hts, hr, hlk, hK, had, hSt⟩ := id C
  intro H locs ls hl hP hS
  unfold fX9_readProduct_s36 at hf
  refine lv_aload_n hx hb dX9_readProduct_36 rfl (lv_at hl 0 rfl) ?_
  refine lv_bipush (v := 42) hx hb dX9_readProduct_37 (by decide) ?_
  obtain ⟨q, hq, hf⟩ := bd hf
  refine gcV_i (k := 0) (o := 15) (As := [.int 42]) (rest := []) hx hb hml hown hts hK hSt hP hS hl.1 (goodV wm_26_10 wm_26_11 wm_26_12 wm_1_23 wm_26_13) okX9_isNext ct_15 rfl rfl (by omega) (Nat.le_of_ble_eq_true rfl) rfl rfl (Nat.le_of_ble_eq_true rfl) dX9_readProduct_39 (kX9_isNext l D G ad had n  42 st q hq) (fun H locs hP hS => ?_)
  exact wX9_readProduct_s42 C n K8 FS v1 v3 q.1 kk hkk hFS q.2 res hK8 hf H locs ls (lv_sub hl [0, 1, 2] rfl) hP hS
def fX9_readProduct_s33 (n : Nat) (K8 : Int32 → Int32 → Int32 → St → Option (Int32 × St)) (FS : Int32 → St → Option (Int32 × St)) (v1 : Int32) (v2 : Int32) (v3 : Int32) (k0 : Int32) (st : St) : Option (Int32 × St) := if k0 = 0 then fX9_readProduct_s82 n FS v2 st else fX9_readProduct_s36 n K8 FS v1 v3 st
set_option maxHeartbeats 4000000 in
set_option maxRecDepth 100000 in
theorem wX9_readProduct_s33 (C : Cx p s m args meth c cX9_readProduct 5 wsL_law RX9 (some .boolean) D G ad) (n : Nat) (K8 : Int32 → Int32 → Int32 → St → Option (Int32 × St)) (FS : Int32 → St → Option (Int32 × St)) (v1 : Int32) (v2 : Int32) (v3 : Int32) (k0 : Int32) (kk : Nat) (hkk : 8 ≤ kk) (hFS : ∀ (a : Int32) (st : St) (q : Int32 × St) (sz : Nat), FS a st = some q → CtI l yX9_readSum (wsU yX9_readSum cX9_readSum 5 (some .boolean)) (rmK kk) D G ad sz [.ref (ad 15), .int a] st q)  (st : St) (res : (Int32 × St)) (hK8 : ∀ (v1 : Int32) (v2 : Int32) (v3 : Int32) (st : St), K8 v1 v2 v3 st = some res → At p l e (rmK (kk + 2)) s m args below meth c D G ad (MQI D G ad below args s res) 5 st [(0, .ref (ad 15)), (1, .int v1), (2, .int v2), (3, .int v3)] 8 []) (hf : fX9_readProduct_s33 n K8 FS v1 v2 v3 k0 st = some res) : At p l e (rmK (kk + 2)) s m args below meth c D G ad (MQI D G ad below args s res) 5 st [(0, .ref (ad 15)), (1, .int v1), (2, .int v2), (3, .int v3)] 33 [.int k0] := by
  obtain ⟨hx, hb, hml, hown, hts, hr, hlk, hK, had, hSt⟩ := id C
  intro H locs ls hl hP hS
  unfold fX9_readProduct_s33 at hf
  refine lv_if_eq (tgt := 82) hx hb dX9_readProduct_33 (by decide) (fun q => ?_) (fun q => ?_)
  · exact wX9_readProduct_s82 C n FS v2 kk hkk hFS st res (it hf q) H locs ls (lv_sub hl [2] rfl) hP hS
  · exact wX9_readProduct_s36 C n K8 FS v1 v3 kk hkk hFS st res hK8 (ie hf q) H locs ls (lv_sub hl [0, 1, 3] rfl) hP hS
def fX9_readProduct_s27 (n : Nat) (K8 : Int32 → Int32 → Int32 → St → Option (Int32 × St)) (FS : Int32 → St → Option (Int32 × St)) (v1 : Int32) (v2 : Int32) (v3 : Int32) (st : St) : Option (Int32 × St) := (fX9_isNext n 47 st).bind (fun q => fX9_readProduct_s33 n K8 FS v1 v2 v3 q.1 q.2)
set_option maxHeartbeats 4000000 in
set_option maxRecDepth 100000 in
theorem wX9_readProduct_s27 (C : Cx p s m args meth c cX9_readProduct 5 wsL_law RX9 (some .boolean) D G ad) (n : Nat) (K8 : Int32 → Int32 → Int32 → St → Option (Int32 × St)) (FS : Int32 → St → Option (Int32 × St)) (v1 : Int32) (v2 : Int32) (v3 : Int32) (kk : Nat) (hkk : 8 ≤ kk) (hFS : ∀ (a : Int32) (st : St) (q : Int32 × St) (sz : Nat), FS a st = some q → CtI l yX9_readSum (wsU yX9_readSum cX9_readSum 5 (some .boolean)) (rmK kk) D G ad sz [.ref (ad 15), .int a] st q)  (st : St) (res : (Int32 × St)) (hK8 : ∀ (v1 : Int32) (v2 : Int32) (v3 : Int32) (st : St), K8 v1 v2 v3 st = some res → At p l e (rmK (kk + 2)) s m args below meth c D G ad (MQI D G ad below args s res) 5 st [(0, .ref (ad 15)), (1, .int v1), (2, .int v2), (3, .int v3)] 8 []) (hf : fX9_readProduct_s27 n K8 FS v1 v2 v3 st = some res) : At p l e (rmK (kk + 2)) s m args below meth c D G ad (MQI D G ad below args s res) 5 st [(0, .ref (ad 15)), (1, .int v1), (2, .int v2), (3, .int v3)] 27 [] := by
  obtain ⟨hx, hb, hml, hown, hts, hr, hlk, hK, had, hSt⟩ := id C
  intro H locs ls hl hP hS
  unfold fX9_readProduct_s27 at hf
  refine lv_aload_n hx hb dX9_readProduct_27 rfl (lv_at hl 0 rfl) ?_
  refine lv_bipush (v := 47) hx hb dX9_readProduct_28 (by decide) ?_
  obtain ⟨q, hq, hf⟩ := bd hf
  refine gcV_i (k := 0) (o := 15) (As := [.int 47]) (rest := []) hx hb hml hown hts hK hSt hP hS hl.1 (goodV wm_26_10 wm_26_11 wm_26_12 wm_1_23 wm_26_13) okX9_isNext ct_15 rfl rfl (by omega) (Nat.le_of_ble_eq_true rfl) rfl rfl (Nat.le_of_ble_eq_true rfl) dX9_readProduct_30 (kX9_isNext l D G ad had n  47 st q hq) (fun H locs hP hS => ?_)
  exact wX9_readProduct_s33 C n K8 FS v1 v2 v3 q.1 kk hkk hFS q.2 res hK8 hf H locs ls (lv_sub hl [0, 1, 2, 3] rfl) hP hS
def fX9_readProduct_s24 (n : Nat) (K8 : Int32 → Int32 → Int32 → St → Option (Int32 × St)) (FS : Int32 → St → Option (Int32 × St)) (v1 : Int32) (v2 : Int32) (v3 : Int32) (k0 : Int32) (st : St) : Option (Int32 × St) := if k0 = 0 then fX9_readProduct_s27 n K8 FS v1 v2 v3 st else fX9_readProduct_s36 n K8 FS v1 v3 st
set_option maxHeartbeats 4000000 in
set_option maxRecDepth 100000 in
theorem wX9_readProduct_s24 (C : Cx p s m args meth c cX9_readProduct 5 wsL_law RX9 (some .boolean) D G ad) (n : Nat) (K8 : Int32 → Int32 → Int32 → St → Option (Int32 × St)) (FS : Int32 → St → Option (Int32 × St)) (v1 : Int32) (v2 : Int32) (v3 : Int32) (k0 : Int32) (kk : Nat) (hkk : 8 ≤ kk) (hFS : ∀ (a : Int32) (st : St) (q : Int32 × St) (sz : Nat), FS a st = some q → CtI l yX9_readSum (wsU yX9_readSum cX9_readSum 5 (some .boolean)) (rmK kk) D G ad sz [.ref (ad 15), .int a] st q)  (st : St) (res : (Int32 × St)) (hK8 : ∀ (v1 : Int32) (v2 : Int32) (v3 : Int32) (st : St), K8 v1 v2 v3 st = some res → At p l e (rmK (kk + 2)) s m args below meth c D G ad (MQI D G ad below args s res) 5 st [(0, .ref (ad 15)), (1, .int v1), (2, .int v2), (3, .int v3)] 8 []) (hf : fX9_readProduct_s24 n K8 FS v1 v2 v3 k0 st = some res) : At p l e (rmK (kk + 2)) s m args below meth c D G ad (MQI D G ad below args s res) 5 st [(0, .ref (ad 15)), (1, .int v1), (2, .int v2), (3, .int v3)] 24 [.int k0] := by
  obtain ⟨hx, hb, hml, hown, hts, hr, hlk, hK, had, hSt⟩ := id C
  intro H locs ls hl hP hS
  unfold fX9_readProduct_s24 at hf
  refine lv_if_ne (tgt := 36) hx hb dX9_readProduct_24 (by decide) (fun q => ?_) (fun q => ?_)
  · exact wX9_readProduct_s36 C n K8 FS v1 v3 kk hkk hFS st res hK8 (ie hf q) H locs ls (lv_sub hl [0, 1, 3] rfl) hP hS
  · exact wX9_readProduct_s27 C n K8 FS v1 v2 v3 kk hkk hFS st res hK8 (it hf q) H locs ls (lv_sub hl [0, 1, 2, 3] rfl) hP hS
def fX9_readProduct_s18 (n : Nat) (K8 : Int32 → Int32 → Int32 → St → Option (Int32 × St)) (FS : Int32 → St → Option (Int32 × St)) (v1 : Int32) (v2 : Int32) (v3 : Int32) (st : St) : Option (Int32 × St) := (fX9_isNext n 42 st).bind (fun q => fX9_readProduct_s24 n K8 FS v1 v2 v3 q.1 q.2)
set_option maxHeartbeats 4000000 in
set_option maxRecDepth 100000 in
theorem wX9_readProduct_s18 (C : Cx p s m args meth c cX9_readProduct 5 wsL_law RX9 (some .boolean) D G ad) (n : Nat) (K8 : Int32 → Int32 → Int32 → St → Option (Int32 × St)) (FS : Int32 → St → Option (Int32 × St)) (v1 : Int32) (v2 : Int32) (v3 : Int32) (kk : Nat) (hkk : 8 ≤ kk) (hFS : ∀ (a : Int32) (st : St) (q : Int32 × St) (sz : Nat), FS a st = some q → CtI l yX9_readSum (wsU yX9_readSum cX9_readSum 5 (some .boolean)) (rmK kk) D G ad sz [.ref (ad 15), .int a] st q)  (st : St) (res : (Int32 × St)) (hK8 : ∀ (v1 : Int32) (v2 : Int32) (v3 : Int32) (st : St), K8 v1 v2 v3 st = some res → At p l e (rmK (kk + 2)) s m args below meth c D G ad (MQI D G ad below args s res) 5 st [(0, .ref (ad 15)), (1, .int v1), (2, .int v2), (3, .int v3)] 8 []) (hf : fX9_readProduct_s18 n K8 FS v1 v2 v3 st = some res) : At p l e (rmK (kk + 2)) s m args below meth c D G ad (MQI D G ad below args s res) 5 st [(0, .ref (ad 15)), (1, .int v1), (2, .int v2), (3, .int v3)] 18 [] := by
  obtain ⟨hx, hb, hml, hown, hts, hr, hlk, hK, had, hSt⟩ := id C
  intro H locs ls hl hP hS
  unfold fX9_readProduct_s18 at hf
  refine lv_aload_n hx hb dX9_readProduct_18 rfl (lv_at hl 0 rfl) ?_
  refine lv_bipush (v := 42) hx hb dX9_readProduct_19 (by decide) ?_
  obtain ⟨q, hq, hf⟩ := bd hf
  refine gcV_i (k := 0) (o := 15) (As := [.int 42]) (rest := []) hx hb hml hown hts hK hSt hP hS hl.1 (goodV wm_26_10 wm_26_11 wm_26_12 wm_1_23 wm_26_13) okX9_isNext ct_15 rfl rfl (by omega) (Nat.le_of_ble_eq_true rfl) rfl rfl (Nat.le_of_ble_eq_true rfl) dX9_readProduct_21 (kX9_isNext l D G ad had n  42 st q hq) (fun H locs hP hS => ?_)
  exact wX9_readProduct_s24 C n K8 FS v1 v2 v3 q.1 kk hkk hFS q.2 res hK8 hf H locs ls (lv_sub hl [0, 1, 2, 3] rfl) hP hS
def fX9_readProduct_s14 (n : Nat) (K8 : Int32 → Int32 → Int32 → St → Option (Int32 × St)) (FS : Int32 → St → Option (Int32 × St)) (v1 : Int32) (v2 : Int32) (v3 : Int32) (st : St) : Option (Int32 × St) := if v2 = 0 then fX9_readProduct_s82 n FS v2 st else fX9_readProduct_s18 n K8 FS v1 v2 v3 st
set_option maxHeartbeats 4000000 in
set_option maxRecDepth 100000 in
theorem wX9_readProduct_s14 (C : Cx p s m args meth c cX9_readProduct 5 wsL_law RX9 (some .boolean) D G ad) (n : Nat) (K8 : Int32 → Int32 → Int32 → St → Option (Int32 × St)) (FS : Int32 → St → Option (Int32 × St)) (v1 : Int32) (v2 : Int32) (v3 : Int32) (kk : Nat) (hkk : 8 ≤ kk) (hFS : ∀ (a : Int32) (st : St) (q : Int32 × St) (sz : Nat), FS a st = some q → CtI l yX9_readSum (wsU yX9_readSum cX9_readSum 5 (some .boolean)) (rmK kk) D G ad sz [.ref (ad 15), .int a] st q)  (st : St) (res : (Int32 × St)) (hK8 : ∀ (v1 : Int32) (v2 : Int32) (v3 : Int32) (st : St), K8 v1 v2 v3 st = some res → At p l e (rmK (kk + 2)) s m args below meth c D G ad (MQI D G ad below args s res) 5 st [(0, .ref (ad 15)), (1, .int v1), (2, .int v2), (3, .int v3)] 8 []) (hf : fX9_readProduct_s14 n K8 FS v1 v2 v3 st = some res) : At p l e (rmK (kk + 2)) s m args below meth c D G ad (MQI D G ad below args s res) 5 st [(0, .ref (ad 15)), (1, .int v1), (2, .int v2), (3, .int v3)] 14 [] := by
  obtain ⟨hx, hb, hml, hown, hts, hr, hlk, hK, had, hSt⟩ := id C
  intro H locs ls hl hP hS
  unfold fX9_readProduct_s14 at hf
  refine lv_iload_n hx hb dX9_readProduct_14 rfl (lv_at hl 2 rfl) ?_
  refine lv_if_eq (tgt := 82) hx hb dX9_readProduct_15 (by decide) (fun q => ?_) (fun q => ?_)
  · exact wX9_readProduct_s82 C n FS v2 kk hkk hFS st res (it hf q) H locs ls (lv_sub hl [2] rfl) hP hS
  · exact wX9_readProduct_s18 C n K8 FS v1 v2 v3 kk hkk hFS st res hK8 (ie hf q) H locs ls (lv_sub hl [0, 1, 2, 3] rfl) hP hS
def fX9_readProduct_s8 (n : Nat) (K8 : Int32 → Int32 → Int32 → St → Option (Int32 × St)) (FS : Int32 → St → Option (Int32 × St)) (v1 : Int32) (v2 : Int32) (v3 : Int32) (st : St) : Option (Int32 × St) := if 120 ≤ v3 then fX9_readProduct_s82 n FS v2 st else fX9_readProduct_s14 n K8 FS v1 v2 v3 st
set_option maxHeartbeats 4000000 in
set_option maxRecDepth 100000 in
theorem wX9_readProduct_s8 (C : Cx p s m args meth c cX9_readProduct 5 wsL_law RX9 (some .boolean) D G ad) (n : Nat) (K8 : Int32 → Int32 → Int32 → St → Option (Int32 × St)) (FS : Int32 → St → Option (Int32 × St)) (v1 : Int32) (v2 : Int32) (v3 : Int32) (kk : Nat) (hkk : 8 ≤ kk) (hFS : ∀ (a : Int32) (st : St) (q : Int32 × St) (sz : Nat), FS a st = some q → CtI l yX9_readSum (wsU yX9_readSum cX9_readSum 5 (some .boolean)) (rmK kk) D G ad sz [.ref (ad 15), .int a] st q)  (st : St) (res : (Int32 × St)) (hK8 : ∀ (v1 : Int32) (v2 : Int32) (v3 : Int32) (st : St), K8 v1 v2 v3 st = some res → At p l e (rmK (kk + 2)) s m args below meth c D G ad (MQI D G ad below args s res) 5 st [(0, .ref (ad 15)), (1, .int v1), (2, .int v2), (3, .int v3)] 8 []) (hf : fX9_readProduct_s8 n K8 FS v1 v2 v3 st = some res) : At p l e (rmK (kk + 2)) s m args below meth c D G ad (MQI D G ad below args s res) 5 st [(0, .ref (ad 15)), (1, .int v1), (2, .int v2), (3, .int v3)] 8 [] := by
  obtain ⟨hx, hb, hml, hown, hts, hr, hlk, hK, had, hSt⟩ := id C
  intro H locs ls hl hP hS
  unfold fX9_readProduct_s8 at hf
  refine lv_iload_n hx hb dX9_readProduct_8 rfl (lv_at hl 3 rfl) ?_
  refine lv_bipush (v := 120) hx hb dX9_readProduct_9 (by decide) ?_
  refine lv_icmp_ge (tgt := 82) hx hb dX9_readProduct_11 (by decide) (fun q => ?_) (fun q => ?_)
  · exact wX9_readProduct_s82 C n FS v2 kk hkk hFS st res (it hf q) H locs ls (lv_sub hl [2] rfl) hP hS
  · exact wX9_readProduct_s14 C n K8 FS v1 v2 v3 kk hkk hFS st res hK8 (ie hf q) H locs ls (lv_sub hl [0, 1, 2, 3] rfl) hP hS
def fX9_readProduct_L8 (n : Nat)  (FS : Int32 → St → Option (Int32 × St)) : Nat → Int32 → Int32 → Int32 → St → Option (Int32 × St)
  | 0, _, _, _, _ => none
  | k + 1, v1, v2, v3, st => fX9_readProduct_s8 n (fX9_readProduct_L8 n FS k) FS v1 v2 v3 st
theorem wX9_readProduct_L8 (C : Cx p s m args meth c cX9_readProduct 5 wsL_law RX9 (some .boolean) D G ad) (n : Nat)  (FS : Int32 → St → Option (Int32 × St)) (kk : Nat) (hkk : 8 ≤ kk) (hFS : ∀ (a : Int32) (st : St) (q : Int32 × St) (sz : Nat), FS a st = some q → CtI l yX9_readSum (wsU yX9_readSum cX9_readSum 5 (some .boolean)) (rmK kk) D G ad sz [.ref (ad 15), .int a] st q) (res : (Int32 × St))  : ∀ (k : Nat) (v1 : Int32) (v2 : Int32) (v3 : Int32)  (st : St), fX9_readProduct_L8 n FS k v1 v2 v3 st = some res → At p l e (rmK (kk + 2)) s m args below meth c D G ad (MQI D G ad below args s res) 5 st [(0, .ref (ad 15)), (1, .int v1), (2, .int v2), (3, .int v3)] 8 [] := by
  intro k
  induction k with
  | zero => intro v1 v2 v3  st h; exact absurd h (by intro q; cases q)
  | succ k ih => intro v1 v2 v3  st h; exact wX9_readProduct_s8 C n (fX9_readProduct_L8 n FS k) FS v1 v2 v3 kk hkk hFS  st res ih h
def fX9_readProduct_s5 (n : Nat)  (FS : Int32 → St → Option (Int32 × St)) (v1 : Int32) (k0 : Int32) (st : St) : Option (Int32 × St) := fX9_readProduct_L8 n FS n v1 k0 0 st
set_option maxHeartbeats 4000000 in
set_option maxRecDepth 100000 in
theorem wX9_readProduct_s5 (C : Cx p s m args meth c cX9_readProduct 5 wsL_law RX9 (some .boolean) D G ad) (n : Nat)  (FS : Int32 → St → Option (Int32 × St)) (v1 : Int32) (k0 : Int32) (kk : Nat) (hkk : 8 ≤ kk) (hFS : ∀ (a : Int32) (st : St) (q : Int32 × St) (sz : Nat), FS a st = some q → CtI l yX9_readSum (wsU yX9_readSum cX9_readSum 5 (some .boolean)) (rmK kk) D G ad sz [.ref (ad 15), .int a] st q)  (st : St) (res : (Int32 × St))  (hf : fX9_readProduct_s5 n  FS v1 k0 st = some res) : At p l e (rmK (kk + 2)) s m args below meth c D G ad (MQI D G ad below args s res) 5 st [(0, .ref (ad 15)), (1, .int v1)] 5 [.int k0] := by
  obtain ⟨hx, hb, hml, hown, hts, hr, hlk, hK, had, hSt⟩ := id C
  intro H locs ls hl hP hS
  unfold fX9_readProduct_s5 at hf
  refine lv_istore_n (lv' := [(2, .int k0), (0, .ref (ad 15)), (1, .int v1)]) hx hb dX9_readProduct_5 rfl hl (by decide) rfl (fun ls hl => ?_)
  refine lv_iconst (v := 0) hx hb dX9_readProduct_6 (by decide) ?_
  refine lv_istore_n (lv' := [(3, .int 0), (2, .int k0), (0, .ref (ad 15)), (1, .int v1)]) hx hb dX9_readProduct_7 rfl hl (by decide) rfl (fun ls hl => ?_)
  exact wX9_readProduct_L8 C n FS kk hkk hFS res n v1 k0 0 st hf H locs ls (lv_sub hl [2, 3, 1, 0] rfl) hP hS
def fX9_readProduct_s0 (n : Nat)  (FS : Int32 → St → Option (Int32 × St)) (v1 : Int32) (st : St) : Option (Int32 × St) := (fX9_readAtom n FS v1 st).bind (fun q => fX9_readProduct_s5 n FS v1 q.1 q.2)
set_option maxHeartbeats 4000000 in
set_option maxRecDepth 100000 in
theorem wX9_readProduct_s0 (C : Cx p s m args meth c cX9_readProduct 5 wsL_law RX9 (some .boolean) D G ad) (n : Nat)  (FS : Int32 → St → Option (Int32 × St)) (v1 : Int32) (kk : Nat) (hkk : 8 ≤ kk) (hFS : ∀ (a : Int32) (st : St) (q : Int32 × St) (sz : Nat), FS a st = some q → CtI l yX9_readSum (wsU yX9_readSum cX9_readSum 5 (some .boolean)) (rmK kk) D G ad sz [.ref (ad 15), .int a] st q)  (st : St) (res : (Int32 × St))  (hf : fX9_readProduct_s0 n  FS v1 st = some res) : At p l e (rmK (kk + 2)) s m args below meth c D G ad (MQI D G ad below args s res) 5 st [(0, .ref (ad 15)), (1, .int v1)] 0 [] := by
  obtain ⟨hx, hb, hml, hown, hts, hr, hlk, hK, had, hSt⟩ := id C
  intro H locs ls hl hP hS
  unfold fX9_readProduct_s0 at hf
  refine lv_aload_n hx hb dX9_readProduct_0 rfl (lv_at hl 0 rfl) ?_
  refine lv_iload_n hx hb dX9_readProduct_1 rfl (lv_at hl 1 rfl) ?_
  obtain ⟨q, hq, hf⟩ := bd hf
  refine gcV_i (k := (kk + 1)) (o := 15) (As := [.int v1]) (rest := []) hx hb hml hown hts hK hSt hP hS hl.1 (goodV wm_29_18 wm_29_19 wm_29_20 wm_1_23 wm_26_18) okX9_readAtom ct_15 rfl rfl (by omega) (Nat.le_of_ble_eq_true rfl) rfl rfl (Nat.le_of_ble_eq_true rfl) dX9_readProduct_2 (kX9_readAtom l D G ad had n FS kk hkk hFS v1 st q hq) (fun H locs hP hS => ?_)
  exact wX9_readProduct_s5 C n FS v1 q.1 kk hkk hFS q.2 res hf H locs ls (lv_sub hl [0, 1] rfl) hP hS
def fX9_readProduct (n : Nat) (FS : Int32 → St → Option (Int32 × St)) (a1 : Int32) (st : St) : Option (Int32 × St) := fX9_readProduct_s0 n FS a1 st
theorem okX9_readProduct : okY yX9_readProduct RX9 1 := by unfold okY; decide +kernel
end
set_option maxRecDepth 100000 in
theorem kX9_readProduct (l : Launch) (D : va_G) (G : G3) (ad : Nat → Nat) (had : Adr ad) (n : Nat) (FS : Int32 → St → Option (Int32 × St)) (kk : Nat) (hkk : 8 ≤ kk) (hFS : ∀ (a : Int32) (st : St) (q : Int32 × St) (sz : Nat), FS a st = some q → CtI l yX9_readSum (wsU yX9_readSum cX9_readSum 5 (some .boolean)) (rmK kk) D G ad sz [.ref (ad 15), .int a] st q) (a1 : Int32) (st : St) (res : (Int32 × St)) (hf : fX9_readProduct n FS a1 st = some res) {sz : Nat} : CtI l yX9_readProduct (wsU yX9_readProduct cX9_readProduct 5 (some .boolean)) (rmK (kk + 2)) D G ad sz [.ref (ad 15), .int a1] st res := by
  refine Met.ofW (cc := cX9_readProduct) (maxL := 5) (ret := (some .boolean)) (by decide) rfl ?_
  intro p e s m args below meth c s₁ B hml hv
  obtain ⟨rfl, hsz, hP, hK, hSt⟩ := hv
  have hts := atoms_spec (ws := wsU yX9_readProduct cX9_readProduct 5 (some .boolean)) B.pre
  have C : Cx p s m _ meth c cX9_readProduct 5 wsL_law RX9 (some .boolean) D G ad := ⟨B.exec, B.bytes, hml, findClass_of_methodNamed B.named, fun w h => hts w (List.mem_cons_of_mem _ h), B.returns, B.notSynchronized, hK, had, hSt⟩
  subst hsz
  have hl := lv_entry ([.ref (ad 15), .int a1]) (n := 5) (Nat.le_of_ble_eq_true rfl)
  rw [lg_entry_eq]
  generalize (lg_sl ([.ref (ad 15), .int a1]) ++ List.replicate (5 - (lg_sl ([.ref (ad 15), .int a1])).length) Slot.unset).toArray = ls at hl ⊢
  exact wX9_readProduct_s0 C n FS a1 kk hkk hFS  st res hf s.heap [] ls (lv_sub hl [0, 1] rfl) hP va_S.rf
section
variable {p : Program} {l : Launch} {e : Env} {s : State} {m : MethodId} {args : Array Value} {below : List Frame} {meth : Method} {c : Code} {D : va_G} {G : G3} {ad : Nat → Nat}
def fX9_readSum_s82 (n : Nat)  (FS : Int32 → St → Option (Int32 × St)) (v2 : Int32) (st : St) : Option (Int32 × St) := if zb v2 = true then (some (v2, st)) else none
set_option maxHeartbeats 4000000 in
set_option maxRecDepth 100000 in
theorem wX9_readSum_s82 (C : Cx p s m args meth c cX9_readSum 5 wsL_law RX9 (some .boolean) D G ad) (n : Nat)  (FS : Int32 → St → Option (Int32 × St)) (v2 : Int32) (kk : Nat) (hkk : 8 ≤ kk) (hFS : ∀ (a : Int32) (st : St) (q : Int32 × St) (sz : Nat), FS a st = some q → CtI l yX9_readSum (wsU yX9_readSum cX9_readSum 5 (some .boolean)) (rmK kk) D G ad sz [.ref (ad 15), .int a] st q)  (st : St) (res : (Int32 × St))  (hf : fX9_readSum_s82 n  FS v2 st = some res) : At p l e (rmK (kk + 3)) s m args below meth c D G ad (MQI D G ad below args s res) 5 st [(2, .int v2)] 82 [] := by
  obtain ⟨hx, hb, hml, hown, hts, hr, hlk, hK, had, hSt⟩ := id C
  intro H locs ls hl hP hS
  unfold fX9_readSum_s82 at hf
  refine lv_iload_n hx hb dX9_readSum_82 rfl (lv_at hl 0 rfl) ?_
  obtain ⟨gz, hf⟩ := gd hf
  exact g_zret hx hb hr hlk hP hS (zb_of gz) dX9_readSum_83 hf
def fX9_readSum_s76 (n : Nat) (K8 : Int32 → Int32 → Int32 → St → Option (Int32 × St)) (FS : Int32 → St → Option (Int32 × St)) (v1 : Int32) (v2 : Int32) (v3 : Int32) (st : St) : Option (Int32 × St) := K8 v1 v2 (v3 + 1) st
set_option maxHeartbeats 4000000 in
set_option maxRecDepth 100000 in
theorem wX9_readSum_s76 (C : Cx p s m args meth c cX9_readSum 5 wsL_law RX9 (some .boolean) D G ad) (n : Nat) (K8 : Int32 → Int32 → Int32 → St → Option (Int32 × St)) (FS : Int32 → St → Option (Int32 × St)) (v1 : Int32) (v2 : Int32) (v3 : Int32) (kk : Nat) (hkk : 8 ≤ kk) (hFS : ∀ (a : Int32) (st : St) (q : Int32 × St) (sz : Nat), FS a st = some q → CtI l yX9_readSum (wsU yX9_readSum cX9_readSum 5 (some .boolean)) (rmK kk) D G ad sz [.ref (ad 15), .int a] st q)  (st : St) (res : (Int32 × St)) (hK8 : ∀ (v1 : Int32) (v2 : Int32) (v3 : Int32) (st : St), K8 v1 v2 v3 st = some res → At p l e (rmK (kk + 3)) s m args below meth c D G ad (MQI D G ad below args s res) 5 st [(0, .ref (ad 15)), (1, .int v1), (2, .int v2), (3, .int v3)] 8 []) (hf : fX9_readSum_s76 n K8 FS v1 v2 v3 st = some res) : At p l e (rmK (kk + 3)) s m args below meth c D G ad (MQI D G ad below args s res) 5 st [(0, .ref (ad 15)), (1, .int v1), (2, .int v2), (3, .int v3)] 76 [] := by
  obtain ⟨hx, hb, hml, hown, hts, hr, hlk, hK, had, hSt⟩ := id C
  intro H locs ls hl hP hS
  unfold fX9_readSum_s76 at hf
  refine lv_iinc (v := v3 + 1) (lv' := [(3, .int (v3 + 1)), (0, .ref (ad 15)), (1, .int v1), (2, .int v2)]) hx hb dX9_readSum_76 hl (k := 3) rfl rfl (by decide) rfl (fun ls hl => ?_)
  refine lv_goto (tgt := 8) hx hb dX9_readSum_79 (by decide) ?_
  exact hK8 v1 v2 (v3 + 1)  st hf H locs ls (lv_sub hl [1, 2, 3, 0] rfl) hP hS
def fX9_readSum_s69 (n : Nat) (K8 : Int32 → Int32 → Int32 → St → Option (Int32 × St)) (FS : Int32 → St → Option (Int32 × St)) (v1 : Int32) (v3 : Int32) (v4 : Int32) (k0 : Int32) (st : St) : Option (Int32 × St) := (fX9_emit n v4 st).bind (fun q => fX9_readSum_s76 n K8 FS v1 k0 v3 q.2)
set_option maxHeartbeats 4000000 in
set_option maxRecDepth 100000 in
theorem wX9_readSum_s69 (C : Cx p s m args meth c cX9_readSum 5 wsL_law RX9 (some .boolean) D G ad) (n : Nat) (K8 : Int32 → Int32 → Int32 → St → Option (Int32 × St)) (FS : Int32 → St → Option (Int32 × St)) (v1 : Int32) (v3 : Int32) (v4 : Int32) (k0 : Int32) (kk : Nat) (hkk : 8 ≤ kk) (hFS : ∀ (a : Int32) (st : St) (q : Int32 × St) (sz : Nat), FS a st = some q → CtI l yX9_readSum (wsU yX9_readSum cX9_readSum 5 (some .boolean)) (rmK kk) D G ad sz [.ref (ad 15), .int a] st q)  (st : St) (res : (Int32 × St)) (hK8 : ∀ (v1 : Int32) (v2 : Int32) (v3 : Int32) (st : St), K8 v1 v2 v3 st = some res → At p l e (rmK (kk + 3)) s m args below meth c D G ad (MQI D G ad below args s res) 5 st [(0, .ref (ad 15)), (1, .int v1), (2, .int v2), (3, .int v3)] 8 []) (hf : fX9_readSum_s69 n K8 FS v1 v3 v4 k0 st = some res) : At p l e (rmK (kk + 3)) s m args below meth c D G ad (MQI D G ad below args s res) 5 st [(0, .ref (ad 15)), (1, .int v1), (3, .int v3), (4, .int v4)] 69 [.int k0] := by
  obtain ⟨hx, hb, hml, hown, hts, hr, hlk, hK, had, hSt⟩ := id C
  intro H locs ls hl hP hS
  unfold fX9_readSum_s69 at hf
  refine lv_istore_n (lv' := [(2, .int k0), (0, .ref (ad 15)), (1, .int v1), (3, .int v3), (4, .int v4)]) hx hb dX9_readSum_69 rfl hl (by decide) rfl (fun ls hl => ?_)
  refine lv_aload_n hx hb dX9_readSum_70 rfl (lv_at hl 1 rfl) ?_
  refine lv_iload hx hb dX9_readSum_71 (lv_at hl 4 rfl) ?_
  obtain ⟨q, hq, hf⟩ := bd hf
  refine gcV_v (k := 0) (o := 15) (As := [.int v4]) (rest := []) hx hb hml hown hts hK hSt hP hS hl.1 (goodV wm_26_14 wm_26_15 wm_26_16 wm_1_23 wm_26_17) okX9_emit ct_15 rfl rfl (by omega) (Nat.le_of_ble_eq_true rfl) rfl rfl (Nat.le_of_ble_eq_true rfl) dX9_readSum_73 (kX9_emit l D G ad had n  v4 st q hq) (fun H locs hP hS => ?_)
  exact wX9_readSum_s76 C n K8 FS v1 k0 v3 kk hkk hFS q.2 res hK8 hf H locs ls (lv_sub hl [1, 2, 0, 3] rfl) hP hS
def fX9_readSum_s64 (n : Nat) (K8 : Int32 → Int32 → Int32 → St → Option (Int32 × St)) (FS : Int32 → St → Option (Int32 × St)) (v1 : Int32) (v3 : Int32) (v4 : Int32) (st : St) : Option (Int32 × St) := (fX9_readProduct n FS v1 st).bind (fun q => fX9_readSum_s69 n K8 FS v1 v3 v4 q.1 q.2)
set_option maxHeartbeats 4000000 in
set_option maxRecDepth 100000 in
theorem wX9_readSum_s64 (C : Cx p s m args meth c cX9_readSum 5 wsL_law RX9 (some .boolean) D G ad) (n : Nat) (K8 : Int32 → Int32 → Int32 → St → Option (Int32 × St)) (FS : Int32 → St → Option (Int32 × St)) (v1 : Int32) (v3 : Int32) (v4 : Int32) (kk : Nat) (hkk : 8 ≤ kk) (hFS : ∀ (a : Int32) (st : St) (q : Int32 × St) (sz : Nat), FS a st = some q → CtI l yX9_readSum (wsU yX9_readSum cX9_readSum 5 (some .boolean)) (rmK kk) D G ad sz [.ref (ad 15), .int a] st q)  (st : St) (res : (Int32 × St)) (hK8 : ∀ (v1 : Int32) (v2 : Int32) (v3 : Int32) (st : St), K8 v1 v2 v3 st = some res → At p l e (rmK (kk + 3)) s m args below meth c D G ad (MQI D G ad below args s res) 5 st [(0, .ref (ad 15)), (1, .int v1), (2, .int v2), (3, .int v3)] 8 []) (hf : fX9_readSum_s64 n K8 FS v1 v3 v4 st = some res) : At p l e (rmK (kk + 3)) s m args below meth c D G ad (MQI D G ad below args s res) 5 st [(0, .ref (ad 15)), (1, .int v1), (3, .int v3), (4, .int v4)] 64 [] := by
  obtain ⟨hx, hb, hml, hown, hts, hr, hlk, hK, had, hSt⟩ := id C
  intro H locs ls hl hP hS
  unfold fX9_readSum_s64 at hf
  refine lv_aload_n hx hb dX9_readSum_64 rfl (lv_at hl 0 rfl) ?_
  refine lv_iload_n hx hb dX9_readSum_65 rfl (lv_at hl 1 rfl) ?_
  obtain ⟨q, hq, hf⟩ := bd hf
  refine gcV_i (k := (kk + 2)) (o := 15) (As := [.int v1]) (rest := []) hx hb hml hown hts hK hSt hP hS hl.1 (goodV wm_26_7 wm_26_8 wm_26_9 wm_1_23 wm_29_17) okX9_readProduct ct_15 rfl rfl (by omega) (Nat.le_of_ble_eq_true rfl) rfl rfl (Nat.le_of_ble_eq_true rfl) dX9_readSum_66 (kX9_readProduct l D G ad had n FS kk hkk hFS v1 st q hq) (fun H locs hP hS => ?_)
  exact wX9_readSum_s69 C n K8 FS v1 v3 v4 q.1 kk hkk hFS q.2 res hK8 hf H locs ls (lv_sub hl [0, 1, 2, 3] rfl) hP hS
def fX9_readSum_s52 (n : Nat) (K8 : Int32 → Int32 → Int32 → St → Option (Int32 × St)) (FS : Int32 → St → Option (Int32 × St)) (v1 : Int32) (v3 : Int32) (k0 : Int32) (st : St) : Option (Int32 × St) := fX9_readSum_s64 n K8 FS v1 v3 k0 (setI st 15 3 ((st.1 15 3) + 1))
set_option maxHeartbeats 4000000 in
set_option maxRecDepth 100000 in
theorem wX9_readSum_s52 (C : Cx p s m args meth c cX9_readSum 5 wsL_law RX9 (some .boolean) D G ad) (n : Nat) (K8 : Int32 → Int32 → Int32 → St → Option (Int32 × St)) (FS : Int32 → St → Option (Int32 × St)) (v1 : Int32) (v3 : Int32) (k0 : Int32) (kk : Nat) (hkk : 8 ≤ kk) (hFS : ∀ (a : Int32) (st : St) (q : Int32 × St) (sz : Nat), FS a st = some q → CtI l yX9_readSum (wsU yX9_readSum cX9_readSum 5 (some .boolean)) (rmK kk) D G ad sz [.ref (ad 15), .int a] st q)  (st : St) (res : (Int32 × St)) (hK8 : ∀ (v1 : Int32) (v2 : Int32) (v3 : Int32) (st : St), K8 v1 v2 v3 st = some res → At p l e (rmK (kk + 3)) s m args below meth c D G ad (MQI D G ad below args s res) 5 st [(0, .ref (ad 15)), (1, .int v1), (2, .int v2), (3, .int v3)] 8 []) (hf : fX9_readSum_s52 n K8 FS v1 v3 k0 st = some res) : At p l e (rmK (kk + 3)) s m args below meth c D G ad (MQI D G ad below args s res) 5 st [(0, .ref (ad 15)), (1, .int v1), (3, .int v3)] 52 [.int k0] := by
  obtain ⟨hx, hb, hml, hown, hts, hr, hlk, hK, had, hSt⟩ := id C
  intro H locs ls hl hP hS
  unfold fX9_readSum_s52 at hf
  refine lv_istore (lv' := [(4, .int k0), (0, .ref (ad 15)), (1, .int v1), (3, .int v3)]) hx hb dX9_readSum_52 hl (by decide) rfl (fun ls hl => ?_)
  refine lv_aload_n hx hb dX9_readSum_54 rfl (lv_at hl 1 rfl) ?_
  refine lv_dup hx hb dX9_readSum_55 rfl ?_
  refine g_getI hx hb hts inlX9 hown hK hP 15 ct_15 rfl 3 (by decide) (hts _ wm_26_1) rfl dX9_readSum_56 ?_
  refine lv_iconst (v := 1) hx hb dX9_readSum_59 (by decide) ?_
  refine lv_iadd hx hb dX9_readSum_60 ?_
  refine g_putI hx hb hts inlX9 tyX9_ok nmX9 hown hK had hP hS 15 ct_15 rfl 3 (by decide) (hts _ wm_26_1) rfl rfl rfl rfl rfl dX9_readSum_61 (fun H locs hP hS => ?_)
  exact wX9_readSum_s64 C n K8 FS v1 v3 k0 kk hkk hFS (setI st 15 3 ((st.1 15 3) + 1)) res hK8 hf H locs ls (lv_sub hl [1, 2, 3, 0] rfl) hP hS
def fX9_readSum_s50 (n : Nat) (K8 : Int32 → Int32 → Int32 → St → Option (Int32 × St)) (FS : Int32 → St → Option (Int32 × St)) (v1 : Int32) (v3 : Int32) (st : St) : Option (Int32 × St) := fX9_readSum_s52 n K8 FS v1 v3 (-9) st
set_option maxHeartbeats 4000000 in
set_option maxRecDepth 100000 in
theorem wX9_readSum_s50 (C : Cx p s m args meth c cX9_readSum 5 wsL_law RX9 (some .boolean) D G ad) (n : Nat) (K8 : Int32 → Int32 → Int32 → St → Option (Int32 × St)) (FS : Int32 → St → Option (Int32 × St)) (v1 : Int32) (v3 : Int32) (kk : Nat) (hkk : 8 ≤ kk) (hFS : ∀ (a : Int32) (st : St) (q : Int32 × St) (sz : Nat), FS a st = some q → CtI l yX9_readSum (wsU yX9_readSum cX9_readSum 5 (some .boolean)) (rmK kk) D G ad sz [.ref (ad 15), .int a] st q)  (st : St) (res : (Int32 × St)) (hK8 : ∀ (v1 : Int32) (v2 : Int32) (v3 : Int32) (st : St), K8 v1 v2 v3 st = some res → At p l e (rmK (kk + 3)) s m args below meth c D G ad (MQI D G ad below args s res) 5 st [(0, .ref (ad 15)), (1, .int v1), (2, .int v2), (3, .int v3)] 8 []) (hf : fX9_readSum_s50 n K8 FS v1 v3 st = some res) : At p l e (rmK (kk + 3)) s m args below meth c D G ad (MQI D G ad below args s res) 5 st [(0, .ref (ad 15)), (1, .int v1), (3, .int v3)] 50 [] := by
  obtain ⟨hx, hb, hml, hown, hts, hr, hlk, hK, had, hSt⟩ := id C
  intro H locs ls hl hP hS
  unfold fX9_readSum_s50 at hf
  refine lv_bipush (v := (-9)) hx hb dX9_readSum_50 (by decide) ?_
  exact wX9_readSum_s52 C n K8 FS v1 v3 (-9) kk hkk hFS st res hK8 hf H locs ls (lv_sub hl [0, 1, 2] rfl) hP hS
def fX9_readSum_s45 (n : Nat) (K8 : Int32 → Int32 → Int32 → St → Option (Int32 × St)) (FS : Int32 → St → Option (Int32 × St)) (v1 : Int32) (v3 : Int32) (st : St) : Option (Int32 × St) := fX9_readSum_s52 n K8 FS v1 v3 (-8) st
set_option maxHeartbeats 4000000 in
set_option maxRecDepth 100000 in
theorem wX9_readSum_s45 (C : Cx p s m args meth c cX9_readSum 5 wsL_law RX9 (some .boolean) D G ad) (n : Nat) (K8 : Int32 → Int32 → Int32 → St → Option (Int32 × St)) (FS : Int32 → St → Option (Int32 × St)) (v1 : Int32) (v3 : Int32) (kk : Nat) (hkk : 8 ≤ kk) (hFS : ∀ (a : Int32) (st : St) (q : Int32 × St) (sz : Nat), FS a st = some q → CtI l yX9_readSum (wsU yX9_readSum cX9_readSum 5 (some .boolean)) (rmK kk) D G ad sz [.ref (ad 15), .int a] st q)  (st : St) (res : (Int32 × St)) (hK8 : ∀ (v1 : Int32) (v2 : Int32) (v3 : Int32) (st : St), K8 v1 v2 v3 st = some res → At p l e (rmK (kk + 3)) s m args below meth c D G ad (MQI D G ad below args s res) 5 st [(0, .ref (ad 15)), (1, .int v1), (2, .int v2), (3, .int v3)] 8 []) (hf : fX9_readSum_s45 n K8 FS v1 v3 st = some res) : At p l e (rmK (kk + 3)) s m args below meth c D G ad (MQI D G ad below args s res) 5 st [(0, .ref (ad 15)), (1, .int v1), (3, .int v3)] 45 [] := by
  obtain ⟨hx, hb, hml, hown, hts, hr, hlk, hK, had, hSt⟩ := id C
  intro H locs ls hl hP hS
  unfold fX9_readSum_s45 at hf
  refine lv_bipush (v := (-8)) hx hb dX9_readSum_45 (by decide) ?_
  refine lv_goto (tgt := 52) hx hb dX9_readSum_47 (by decide) ?_
  exact wX9_readSum_s52 C n K8 FS v1 v3 (-8) kk hkk hFS st res hK8 hf H locs ls (lv_sub hl [0, 1, 2] rfl) hP hS
def fX9_readSum_s42 (n : Nat) (K8 : Int32 → Int32 → Int32 → St → Option (Int32 × St)) (FS : Int32 → St → Option (Int32 × St)) (v1 : Int32) (v3 : Int32) (k0 : Int32) (st : St) : Option (Int32 × St) := if k0 = 0 then fX9_readSum_s50 n K8 FS v1 v3 st else fX9_readSum_s45 n K8 FS v1 v3 st
set_option maxHeartbeats 4000000 in
set_option maxRecDepth 100000 in
theorem wX9_readSum_s42 (C : Cx p s m args meth c cX9_readSum 5 wsL_law RX9 (some .boolean) D G ad) (n : Nat) (K8 : Int32 → Int32 → Int32 → St → Option (Int32 × St)) (FS : Int32 → St → Option (Int32 × St)) (v1 : Int32) (v3 : Int32) (k0 : Int32) (kk : Nat) (hkk : 8 ≤ kk) (hFS : ∀ (a : Int32) (st : St) (q : Int32 × St) (sz : Nat), FS a st = some q → CtI l yX9_readSum (wsU yX9_readSum cX9_readSum 5 (some .boolean)) (rmK kk) D G ad sz [.ref (ad 15), .int a] st q)  (st : St) (res : (Int32 × St)) (hK8 : ∀ (v1 : Int32) (v2 : Int32) (v3 : Int32) (st : St), K8 v1 v2 v3 st = some res → At p l e (rmK (kk + 3)) s m args below meth c D G ad (MQI D G ad below args s res) 5 st [(0, .ref (ad 15)), (1, .int v1), (2, .int v2), (3, .int v3)] 8 []) (hf : fX9_readSum_s42 n K8 FS v1 v3 k0 st = some res) : At p l e (rmK (kk + 3)) s m args below meth c D G ad (MQI D G ad below args s res) 5 st [(0, .ref (ad 15)), (1, .int v1), (3, .int v3)] 42 [.int k0] := by
  obtain ⟨hx, hb, hml, hown, hts, hr, hlk, hK, had, hSt⟩ := id C
  intro H locs ls hl hP hS
  unfold fX9_readSum_s42 at hf
  refine lv_if_eq (tgt := 50) hx hb dX9_readSum_42 (by decide) (fun q => ?_) (fun q => ?_)
  · exact wX9_readSum_s50 C n K8 FS v1 v3 kk hkk hFS st res hK8 (it hf q) H locs ls (lv_sub hl [0, 1, 2] rfl) hP hS
  · exact wX9_readSum_s45 C n K8 FS v1 v3 kk hkk hFS st res hK8 (ie hf q) H locs ls (lv_sub hl [0, 1, 2] rfl) hP hS
def fX9_readSum_s36 (n : Nat) (K8 : Int32 → Int32 → Int32 → St → Option (Int32 × St)) (FS : Int32 → St → Option (Int32 × St)) (v1 : Int32) (v3 : Int32) (st : St) : Option (Int32 × St) := (fX9_isNext n 43 st).bind (fun q => fX9_readSum_s42 n K8 FS v1 v3 q.1 q.2)
set_option maxHeartbeats 4000000 in
set_option maxRecDepth 100000 in
theorem wX9_readSum_s36 (C : Cx p s m args meth c cX9_readSum 5 wsL_law RX9 (some .boolean) D G ad) (n : Nat) (K8 : Int32 → Int32 → Int32 → St → Option (Int32 × St)) (FS : Int32 → St → Option (Int32 × St)) (v1 : Int32) (v3 : Int32) (kk : Nat) (hkk : 8 ≤ kk) (hFS : ∀ (a : Int32) (st : St) (q : Int32 × St) (sz : Nat), FS a st = some q → CtI l yX9_readSum (wsU yX9_readSum cX9_readSum 5 (some .boolean)) (rmK kk) D G ad sz [.ref (ad 15), .int a] st q)  (st : St) (res : (Int32 × St)) (hK8 : ∀ (v1 : Int32) (v2 : Int32) (v3 : Int32) (st : St), K8 v1 v2 v3 st = some res → At p l e (rmK (kk + 3)) s m args below meth c D G ad (MQI D G ad below args s res) 5 st [(0, .ref (ad 15)), (1, .int v1), (2, .int v2), (3, .int v3)] 8 []) (hf : fX9_readSum_s36 n K8 FS v1 v3 st = some res) : At p l e (rmK (kk + 3)) s m args below meth c D G ad (MQI D G ad below args s res) 5 st [(0, .ref (ad 15)), (1, .int v1), (3, .int v3)] 36 [] := by
  obtain ⟨hx, hb, hml, hown, hts, hr, hlk, hK, had, hSt⟩ := id C
  intro H locs ls hl hP hS
  unfold fX9_readSum_s36 at hf
  refine lv_aload_n hx hb dX9_readSum_36 rfl (lv_at hl 0 rfl) ?_
  refine lv_bipush (v := 43) hx hb dX9_readSum_37 (by decide) ?_
  obtain ⟨q, hq, hf⟩ := bd hf
  refine gcV_i (k := 0) (o := 15) (As := [.int 43]) (rest := []) hx hb hml hown hts hK hSt hP hS hl.1 (goodV wm_26_10 wm_26_11 wm_26_12 wm_1_23 wm_26_13) okX9_isNext ct_15 rfl rfl (by omega) (Nat.le_of_ble_eq_true rfl) rfl rfl (Nat.le_of_ble_eq_true rfl) dX9_readSum_39 (kX9_isNext l D G ad had n  43 st q hq) (fun H locs hP hS => ?_)
  exact wX9_readSum_s42 C n K8 FS v1 v3 q.1 kk hkk hFS q.2 res hK8 hf H locs ls (lv_sub hl [0, 1, 2] rfl) hP hS
def fX9_readSum_s33 (n : Nat) (K8 : Int32 → Int32 → Int32 → St → Option (Int32 × St)) (FS : Int32 → St → Option (Int32 × St)) (v1 : Int32) (v2 : Int32) (v3 : Int32) (k0 : Int32) (st : St) : Option (Int32 × St) := if k0 = 0 then fX9_readSum_s82 n FS v2 st else fX9_readSum_s36 n K8 FS v1 v3 st
set_option maxHeartbeats 4000000 in
set_option maxRecDepth 100000 in
theorem wX9_readSum_s33 (C : Cx p s m args meth c cX9_readSum 5 wsL_law RX9 (some .boolean) D G ad) (n : Nat) (K8 : Int32 → Int32 → Int32 → St → Option (Int32 × St)) (FS : Int32 → St → Option (Int32 × St)) (v1 : Int32) (v2 : Int32) (v3 : Int32) (k0 : Int32) (kk : Nat) (hkk : 8 ≤ kk) (hFS : ∀ (a : Int32) (st : St) (q : Int32 × St) (sz : Nat), FS a st = some q → CtI l yX9_readSum (wsU yX9_readSum cX9_readSum 5 (some .boolean)) (rmK kk) D G ad sz [.ref (ad 15), .int a] st q)  (st : St) (res : (Int32 × St)) (hK8 : ∀ (v1 : Int32) (v2 : Int32) (v3 : Int32) (st : St), K8 v1 v2 v3 st = some res → At p l e (rmK (kk + 3)) s m args below meth c D G ad (MQI D G ad below args s res) 5 st [(0, .ref (ad 15)), (1, .int v1), (2, .int v2), (3, .int v3)] 8 []) (hf : fX9_readSum_s33 n K8 FS v1 v2 v3 k0 st = some res) : At p l e (rmK (kk + 3)) s m args below meth c D G ad (MQI D G ad below args s res) 5 st [(0, .ref (ad 15)), (1, .int v1), (2, .int v2), (3, .int v3)] 33 [.int k0] := by
  obtain ⟨hx, hb, hml, hown, hts, hr, hlk, hK, had, hSt⟩ := id C
  intro H locs ls hl hP hS
  unfold fX9_readSum_s33 at hf
  refine lv_if_eq (tgt := 82) hx hb dX9_readSum_33 (by decide) (fun q => ?_) (fun q => ?_)
  · exact wX9_readSum_s82 C n FS v2 kk hkk hFS st res (it hf q) H locs ls (lv_sub hl [2] rfl) hP hS
  · exact wX9_readSum_s36 C n K8 FS v1 v3 kk hkk hFS st res hK8 (ie hf q) H locs ls (lv_sub hl [0, 1, 3] rfl) hP hS
def fX9_readSum_s27 (n : Nat) (K8 : Int32 → Int32 → Int32 → St → Option (Int32 × St)) (FS : Int32 → St → Option (Int32 × St)) (v1 : Int32) (v2 : Int32) (v3 : Int32) (st : St) : Option (Int32 × St) := (fX9_isNext n 45 st).bind (fun q => fX9_readSum_s33 n K8 FS v1 v2 v3 q.1 q.2)
set_option maxHeartbeats 4000000 in
set_option maxRecDepth 100000 in
theorem wX9_readSum_s27 (C : Cx p s m args meth c cX9_readSum 5 wsL_law RX9 (some .boolean) D G ad) (n : Nat) (K8 : Int32 → Int32 → Int32 → St → Option (Int32 × St)) (FS : Int32 → St → Option (Int32 × St)) (v1 : Int32) (v2 : Int32) (v3 : Int32) (kk : Nat) (hkk : 8 ≤ kk) (hFS : ∀ (a : Int32) (st : St) (q : Int32 × St) (sz : Nat), FS a st = some q → CtI l yX9_readSum (wsU yX9_readSum cX9_readSum 5 (some .boolean)) (rmK kk) D G ad sz [.ref (ad 15), .int a] st q)  (st : St) (res : (Int32 × St)) (hK8 : ∀ (v1 : Int32) (v2 : Int32) (v3 : Int32) (st : St), K8 v1 v2 v3 st = some res → At p l e (rmK (kk + 3)) s m args below meth c D G ad (MQI D G ad below args s res) 5 st [(0, .ref (ad 15)), (1, .int v1), (2, .int v2), (3, .int v3)] 8 []) (hf : fX9_readSum_s27 n K8 FS v1 v2 v3 st = some res) : At p l e (rmK (kk + 3)) s m args below meth c D G ad (MQI D G ad below args s res) 5 st [(0, .ref (ad 15)), (1, .int v1), (2, .int v2), (3, .int v3)] 27 [] := by
  obtain ⟨hx, hb, hml, hown, hts, hr, hlk, hK, had, hSt⟩ := id C
  intro H locs ls hl hP hS
  unfold fX9_readSum_s27 at hf
  refine lv_aload_n hx hb dX9_readSum_27 rfl (lv_at hl 0 rfl) ?_
  refine lv_bipush (v := 45) hx hb dX9_readSum_28 (by decide) ?_
  obtain ⟨q, hq, hf⟩ := bd hf
  refine gcV_i (k := 0) (o := 15) (As := [.int 45]) (rest := []) hx hb hml hown hts hK hSt hP hS hl.1 (goodV wm_26_10 wm_26_11 wm_26_12 wm_1_23 wm_26_13) okX9_isNext ct_15 rfl rfl (by omega) (Nat.le_of_ble_eq_true rfl) rfl rfl (Nat.le_of_ble_eq_true rfl) dX9_readSum_30 (kX9_isNext l D G ad had n  45 st q hq) (fun H locs hP hS => ?_)
  exact wX9_readSum_s33 C n K8 FS v1 v2 v3 q.1 kk hkk hFS q.2 res hK8 hf H locs ls (lv_sub hl [0, 1, 2, 3] rfl) hP hS
def fX9_readSum_s24 (n : Nat) (K8 : Int32 → Int32 → Int32 → St → Option (Int32 × St)) (FS : Int32 → St → Option (Int32 × St)) (v1 : Int32) (v2 : Int32) (v3 : Int32) (k0 : Int32) (st : St) : Option (Int32 × St) := if k0 = 0 then fX9_readSum_s27 n K8 FS v1 v2 v3 st else fX9_readSum_s36 n K8 FS v1 v3 st
set_option maxHeartbeats 4000000 in
set_option maxRecDepth 100000 in
theorem wX9_readSum_s24 (C : Cx p s m args meth c cX9_readSum 5 wsL_law RX9 (some .boolean) D G ad) (n : Nat) (K8 : Int32 → Int32 → Int32 → St → Option (Int32 × St)) (FS : Int32 → St → Option (Int32 × St)) (v1 : Int32) (v2 : Int32) (v3 : Int32) (k0 : Int32) (kk : Nat) (hkk : 8 ≤ kk) (hFS : ∀ (a : Int32) (st : St) (q : Int32 × St) (sz : Nat), FS a st = some q → CtI l yX9_readSum (wsU yX9_readSum cX9_readSum 5 (some .boolean)) (rmK kk) D G ad sz [.ref (ad 15), .int a] st q)  (st : St) (res : (Int32 × St)) (hK8 : ∀ (v1 : Int32) (v2 : Int32) (v3 : Int32) (st : St), K8 v1 v2 v3 st = some res → At p l e (rmK (kk + 3)) s m args below meth c D G ad (MQI D G ad below args s res) 5 st [(0, .ref (ad 15)), (1, .int v1), (2, .int v2), (3, .int v3)] 8 []) (hf : fX9_readSum_s24 n K8 FS v1 v2 v3 k0 st = some res) : At p l e (rmK (kk + 3)) s m args below meth c D G ad (MQI D G ad below args s res) 5 st [(0, .ref (ad 15)), (1, .int v1), (2, .int v2), (3, .int v3)] 24 [.int k0] := by
  obtain ⟨hx, hb, hml, hown, hts, hr, hlk, hK, had, hSt⟩ := id C
  intro H locs ls hl hP hS
  unfold fX9_readSum_s24 at hf
  refine lv_if_ne (tgt := 36) hx hb dX9_readSum_24 (by decide) (fun q => ?_) (fun q => ?_)
  · exact wX9_readSum_s36 C n K8 FS v1 v3 kk hkk hFS st res hK8 (ie hf q) H locs ls (lv_sub hl [0, 1, 3] rfl) hP hS
  · exact wX9_readSum_s27 C n K8 FS v1 v2 v3 kk hkk hFS st res hK8 (it hf q) H locs ls (lv_sub hl [0, 1, 2, 3] rfl) hP hS
def fX9_readSum_s18 (n : Nat) (K8 : Int32 → Int32 → Int32 → St → Option (Int32 × St)) (FS : Int32 → St → Option (Int32 × St)) (v1 : Int32) (v2 : Int32) (v3 : Int32) (st : St) : Option (Int32 × St) := (fX9_isNext n 43 st).bind (fun q => fX9_readSum_s24 n K8 FS v1 v2 v3 q.1 q.2)
set_option maxHeartbeats 4000000 in
set_option maxRecDepth 100000 in
theorem wX9_readSum_s18 (C : Cx p s m args meth c cX9_readSum 5 wsL_law RX9 (some .boolean) D G ad) (n : Nat) (K8 : Int32 → Int32 → Int32 → St → Option (Int32 × St)) (FS : Int32 → St → Option (Int32 × St)) (v1 : Int32) (v2 : Int32) (v3 : Int32) (kk : Nat) (hkk : 8 ≤ kk) (hFS : ∀ (a : Int32) (st : St) (q : Int32 × St) (sz : Nat), FS a st = some q → CtI l yX9_readSum (wsU yX9_readSum cX9_readSum 5 (some .boolean)) (rmK kk) D G ad sz [.ref (ad 15), .int a] st q)  (st : St) (res : (Int32 × St)) (hK8 : ∀ (v1 : Int32) (v2 : Int32) (v3 : Int32) (st : St), K8 v1 v2 v3 st = some res → At p l e (rmK (kk + 3)) s m args below meth c D G ad (MQI D G ad below args s res) 5 st [(0, .ref (ad 15)), (1, .int v1), (2, .int v2), (3, .int v3)] 8 []) (hf : fX9_readSum_s18 n K8 FS v1 v2 v3 st = some res) : At p l e (rmK (kk + 3)) s m args below meth c D G ad (MQI D G ad below args s res) 5 st [(0, .ref (ad 15)), (1, .int v1), (2, .int v2), (3, .int v3)] 18 [] := by
  obtain ⟨hx, hb, hml, hown, hts, hr, hlk, hK, had, hSt⟩ := id C
  intro H locs ls hl hP hS
  unfold fX9_readSum_s18 at hf
  refine lv_aload_n hx hb dX9_readSum_18 rfl (lv_at hl 0 rfl) ?_
  refine lv_bipush (v := 43) hx hb dX9_readSum_19 (by decide) ?_
  obtain ⟨q, hq, hf⟩ := bd hf
  refine gcV_i (k := 0) (o := 15) (As := [.int 43]) (rest := []) hx hb hml hown hts hK hSt hP hS hl.1 (goodV wm_26_10 wm_26_11 wm_26_12 wm_1_23 wm_26_13) okX9_isNext ct_15 rfl rfl (by omega) (Nat.le_of_ble_eq_true rfl) rfl rfl (Nat.le_of_ble_eq_true rfl) dX9_readSum_21 (kX9_isNext l D G ad had n  43 st q hq) (fun H locs hP hS => ?_)
  exact wX9_readSum_s24 C n K8 FS v1 v2 v3 q.1 kk hkk hFS q.2 res hK8 hf H locs ls (lv_sub hl [0, 1, 2, 3] rfl) hP hS
def fX9_readSum_s14 (n : Nat) (K8 : Int32 → Int32 → Int32 → St → Option (Int32 × St)) (FS : Int32 → St → Option (Int32 × St)) (v1 : Int32) (v2 : Int32) (v3 : Int32) (st : St) : Option (Int32 × St) := if v2 = 0 then fX9_readSum_s82 n FS v2 st else fX9_readSum_s18 n K8 FS v1 v2 v3 st
set_option maxHeartbeats 4000000 in
set_option maxRecDepth 100000 in
theorem wX9_readSum_s14 (C : Cx p s m args meth c cX9_readSum 5 wsL_law RX9 (some .boolean) D G ad) (n : Nat) (K8 : Int32 → Int32 → Int32 → St → Option (Int32 × St)) (FS : Int32 → St → Option (Int32 × St)) (v1 : Int32) (v2 : Int32) (v3 : Int32) (kk : Nat) (hkk : 8 ≤ kk) (hFS : ∀ (a : Int32) (st : St) (q : Int32 × St) (sz : Nat), FS a st = some q → CtI l yX9_readSum (wsU yX9_readSum cX9_readSum 5 (some .boolean)) (rmK kk) D G ad sz [.ref (ad 15), .int a] st q)  (st : St) (res : (Int32 × St)) (hK8 : ∀ (v1 : Int32) (v2 : Int32) (v3 : Int32) (st : St), K8 v1 v2 v3 st = some res → At p l e (rmK (kk + 3)) s m args below meth c D G ad (MQI D G ad below args s res) 5 st [(0, .ref (ad 15)), (1, .int v1), (2, .int v2), (3, .int v3)] 8 []) (hf : fX9_readSum_s14 n K8 FS v1 v2 v3 st = some res) : At p l e (rmK (kk + 3)) s m args below meth c D G ad (MQI D G ad below args s res) 5 st [(0, .ref (ad 15)), (1, .int v1), (2, .int v2), (3, .int v3)] 14 [] := by
  obtain ⟨hx, hb, hml, hown, hts, hr, hlk, hK, had, hSt⟩ := id C
  intro H locs ls hl hP hS
  unfold fX9_readSum_s14 at hf
  refine lv_iload_n hx hb dX9_readSum_14 rfl (lv_at hl 2 rfl) ?_
  refine lv_if_eq (tgt := 82) hx hb dX9_readSum_15 (by decide) (fun q => ?_) (fun q => ?_)
  · exact wX9_readSum_s82 C n FS v2 kk hkk hFS st res (it hf q) H locs ls (lv_sub hl [2] rfl) hP hS
  · exact wX9_readSum_s18 C n K8 FS v1 v2 v3 kk hkk hFS st res hK8 (ie hf q) H locs ls (lv_sub hl [0, 1, 2, 3] rfl) hP hS
def fX9_readSum_s8 (n : Nat) (K8 : Int32 → Int32 → Int32 → St → Option (Int32 × St)) (FS : Int32 → St → Option (Int32 × St)) (v1 : Int32) (v2 : Int32) (v3 : Int32) (st : St) : Option (Int32 × St) := if 120 ≤ v3 then fX9_readSum_s82 n FS v2 st else fX9_readSum_s14 n K8 FS v1 v2 v3 st
set_option maxHeartbeats 4000000 in
set_option maxRecDepth 100000 in
theorem wX9_readSum_s8 (C : Cx p s m args meth c cX9_readSum 5 wsL_law RX9 (some .boolean) D G ad) (n : Nat) (K8 : Int32 → Int32 → Int32 → St → Option (Int32 × St)) (FS : Int32 → St → Option (Int32 × St)) (v1 : Int32) (v2 : Int32) (v3 : Int32) (kk : Nat) (hkk : 8 ≤ kk) (hFS : ∀ (a : Int32) (st : St) (q : Int32 × St) (sz : Nat), FS a st = some q → CtI l yX9_readSum (wsU yX9_readSum cX9_readSum 5 (some .boolean)) (rmK kk) D G ad sz [.ref (ad 15), .int a] st q)  (st : St) (res : (Int32 × St)) (hK8 : ∀ (v1 : Int32) (v2 : Int32) (v3 : Int32) (st : St), K8 v1 v2 v3 st = some res → At p l e (rmK (kk + 3)) s m args below meth c D G ad (MQI D G ad below args s res) 5 st [(0, .ref (ad 15)), (1, .int v1), (2, .int v2), (3, .int v3)] 8 []) (hf : fX9_readSum_s8 n K8 FS v1 v2 v3 st = some res) : At p l e (rmK (kk + 3)) s m args below meth c D G ad (MQI D G ad below args s res) 5 st [(0, .ref (ad 15)), (1, .int v1), (2, .int v2), (3, .int v3)] 8 [] := by
  obtain ⟨hx, hb, hml, hown, hts, hr, hlk, hK, had, hSt⟩ := id C
  intro H locs ls hl hP hS
  unfold fX9_readSum_s8 at hf
  refine lv_iload_n hx hb dX9_readSum_8 rfl (lv_at hl 3 rfl) ?_
  refine lv_bipush (v := 120) hx hb dX9_readSum_9 (by decide) ?_
  refine lv_icmp_ge (tgt := 82) hx hb dX9_readSum_11 (by decide) (fun q => ?_) (fun q => ?_)
  · exact wX9_readSum_s82 C n FS v2 kk hkk hFS st res (it hf q) H locs ls (lv_sub hl [2] rfl) hP hS
  · exact wX9_readSum_s14 C n K8 FS v1 v2 v3 kk hkk hFS st res hK8 (ie hf q) H locs ls (lv_sub hl [0, 1, 2, 3] rfl) hP hS
def fX9_readSum_L8 (n : Nat)  (FS : Int32 → St → Option (Int32 × St)) : Nat → Int32 → Int32 → Int32 → St → Option (Int32 × St)
  | 0, _, _, _, _ => none
  | k + 1, v1, v2, v3, st => fX9_readSum_s8 n (fX9_readSum_L8 n FS k) FS v1 v2 v3 st
theorem wX9_readSum_L8 (C : Cx p s m args meth c cX9_readSum 5 wsL_law RX9 (some .boolean) D G ad) (n : Nat)  (FS : Int32 → St → Option (Int32 × St)) (kk : Nat) (hkk : 8 ≤ kk) (hFS : ∀ (a : Int32) (st : St) (q : Int32 × St) (sz : Nat), FS a st = some q → CtI l yX9_readSum (wsU yX9_readSum cX9_readSum 5 (some .boolean)) (rmK kk) D G ad sz [.ref (ad 15), .int a] st q) (res : (Int32 × St))  : ∀ (k : Nat) (v1 : Int32) (v2 : Int32) (v3 : Int32)  (st : St), fX9_readSum_L8 n FS k v1 v2 v3 st = some res → At p l e (rmK (kk + 3)) s m args below meth c D G ad (MQI D G ad below args s res) 5 st [(0, .ref (ad 15)), (1, .int v1), (2, .int v2), (3, .int v3)] 8 [] := by
  intro k
  induction k with
  | zero => intro v1 v2 v3  st h; exact absurd h (by intro q; cases q)
  | succ k ih => intro v1 v2 v3  st h; exact wX9_readSum_s8 C n (fX9_readSum_L8 n FS k) FS v1 v2 v3 kk hkk hFS  st res ih h
def fX9_readSum_s5 (n : Nat)  (FS : Int32 → St → Option (Int32 × St)) (v1 : Int32) (k0 : Int32) (st : St) : Option (Int32 × St) := fX9_readSum_L8 n FS n v1 k0 0 st
set_option maxHeartbeats 4000000 in
set_option maxRecDepth 100000 in
theorem wX9_readSum_s5 (C : Cx p s m args meth c cX9_readSum 5 wsL_law RX9 (some .boolean) D G ad) (n : Nat)  (FS : Int32 → St → Option (Int32 × St)) (v1 : Int32) (k0 : Int32) (kk : Nat) (hkk : 8 ≤ kk) (hFS : ∀ (a : Int32) (st : St) (q : Int32 × St) (sz : Nat), FS a st = some q → CtI l yX9_readSum (wsU yX9_readSum cX9_readSum 5 (some .boolean)) (rmK kk) D G ad sz [.ref (ad 15), .int a] st q)  (st : St) (res : (Int32 × St))  (hf : fX9_readSum_s5 n  FS v1 k0 st = some res) : At p l e (rmK (kk + 3)) s m args below meth c D G ad (MQI D G ad below args s res) 5 st [(0, .ref (ad 15)), (1, .int v1)] 5 [.int k0] := by
  obtain ⟨hx, hb, hml, hown, hts, hr, hlk, hK, had, hSt⟩ := id C
  intro H locs ls hl hP hS
  unfold fX9_readSum_s5 at hf
  refine lv_istore_n (lv' := [(2, .int k0), (0, .ref (ad 15)), (1, .int v1)]) hx hb dX9_readSum_5 rfl hl (by decide) rfl (fun ls hl => ?_)
  refine lv_iconst (v := 0) hx hb dX9_readSum_6 (by decide) ?_
  refine lv_istore_n (lv' := [(3, .int 0), (2, .int k0), (0, .ref (ad 15)), (1, .int v1)]) hx hb dX9_readSum_7 rfl hl (by decide) rfl (fun ls hl => ?_)
  exact wX9_readSum_L8 C n FS kk hkk hFS res n v1 k0 0 st hf H locs ls (lv_sub hl [2, 3, 1, 0] rfl) hP hS
def fX9_readSum_s0 (n : Nat)  (FS : Int32 → St → Option (Int32 × St)) (v1 : Int32) (st : St) : Option (Int32 × St) := (fX9_readProduct n FS v1 st).bind (fun q => fX9_readSum_s5 n FS v1 q.1 q.2)
set_option maxHeartbeats 4000000 in
set_option maxRecDepth 100000 in
theorem wX9_readSum_s0 (C : Cx p s m args meth c cX9_readSum 5 wsL_law RX9 (some .boolean) D G ad) (n : Nat)  (FS : Int32 → St → Option (Int32 × St)) (v1 : Int32) (kk : Nat) (hkk : 8 ≤ kk) (hFS : ∀ (a : Int32) (st : St) (q : Int32 × St) (sz : Nat), FS a st = some q → CtI l yX9_readSum (wsU yX9_readSum cX9_readSum 5 (some .boolean)) (rmK kk) D G ad sz [.ref (ad 15), .int a] st q)  (st : St) (res : (Int32 × St))  (hf : fX9_readSum_s0 n  FS v1 st = some res) : At p l e (rmK (kk + 3)) s m args below meth c D G ad (MQI D G ad below args s res) 5 st [(0, .ref (ad 15)), (1, .int v1)] 0 [] := by
  obtain ⟨hx, hb, hml, hown, hts, hr, hlk, hK, had, hSt⟩ := id C
  intro H locs ls hl hP hS
  unfold fX9_readSum_s0 at hf
  refine lv_aload_n hx hb dX9_readSum_0 rfl (lv_at hl 0 rfl) ?_
  refine lv_iload_n hx hb dX9_readSum_1 rfl (lv_at hl 1 rfl) ?_
  obtain ⟨q, hq, hf⟩ := bd hf
  refine gcV_i (k := (kk + 2)) (o := 15) (As := [.int v1]) (rest := []) hx hb hml hown hts hK hSt hP hS hl.1 (goodV wm_26_7 wm_26_8 wm_26_9 wm_1_23 wm_29_17) okX9_readProduct ct_15 rfl rfl (by omega) (Nat.le_of_ble_eq_true rfl) rfl rfl (Nat.le_of_ble_eq_true rfl) dX9_readSum_2 (kX9_readProduct l D G ad had n FS kk hkk hFS v1 st q hq) (fun H locs hP hS => ?_)
  exact wX9_readSum_s5 C n FS v1 q.1 kk hkk hFS q.2 res hf H locs ls (lv_sub hl [0, 1] rfl) hP hS
def fX9_readSum (n : Nat) (FS : Int32 → St → Option (Int32 × St)) (a1 : Int32) (st : St) : Option (Int32 × St) := fX9_readSum_s0 n FS a1 st
end
set_option maxRecDepth 100000 in
theorem kX9_readSum (l : Launch) (D : va_G) (G : G3) (ad : Nat → Nat) (had : Adr ad) (n : Nat) (FS : Int32 → St → Option (Int32 × St)) (kk : Nat) (hkk : 8 ≤ kk) (hFS : ∀ (a : Int32) (st : St) (q : Int32 × St) (sz : Nat), FS a st = some q → CtI l yX9_readSum (wsU yX9_readSum cX9_readSum 5 (some .boolean)) (rmK kk) D G ad sz [.ref (ad 15), .int a] st q) (a1 : Int32) (st : St) (res : (Int32 × St)) (hf : fX9_readSum n FS a1 st = some res) {sz : Nat} : CtI l yX9_readSum (wsU yX9_readSum cX9_readSum 5 (some .boolean)) (rmK (kk + 3)) D G ad sz [.ref (ad 15), .int a1] st res := by
  refine Met.ofW (cc := cX9_readSum) (maxL := 5) (ret := (some .boolean)) (by decide) rfl ?_
  intro p e s m args below meth c s₁ B hml hv
  obtain ⟨rfl, hsz, hP, hK, hSt⟩ := hv
  have hts := atoms_spec (ws := wsU yX9_readSum cX9_readSum 5 (some .boolean)) B.pre
  have C : Cx p s m _ meth c cX9_readSum 5 wsL_law RX9 (some .boolean) D G ad := ⟨B.exec, B.bytes, hml, findClass_of_methodNamed B.named, fun w h => hts w (List.mem_cons_of_mem _ h), B.returns, B.notSynchronized, hK, had, hSt⟩
  subst hsz
  have hl := lv_entry ([.ref (ad 15), .int a1]) (n := 5) (Nat.le_of_ble_eq_true rfl)
  rw [lg_entry_eq]
  generalize (lg_sl ([.ref (ad 15), .int a1]) ++ List.replicate (5 - (lg_sl ([.ref (ad 15), .int a1])).length) Slot.unset).toArray = ls at hl ⊢
  exact wX9_readSum_s0 C n FS a1 kk hkk hFS  st res hf s.heap [] ls (lv_sub hl [0, 1] rfl) hP va_S.rf
/-- the reading, so many openings deep -/
def FSum (n : Nat) : Nat → Int32 → St → Option (Int32 × St)
  | 0, _, _ => none
  | d + 1, a, st => fX9_readSum n (FSum n d) a st
theorem kFSum (l : Launch) (D : va_G) (G : G3) (ad : Nat → Nat) (had : Adr ad) (n : Nat) : ∀ (d : Nat) (a : Int32) (st : St) (q : Int32 × St) (sz : Nat), FSum n d a st = some q → CtI l yX9_readSum (wsU yX9_readSum cX9_readSum 5 (some .boolean)) (rmK (8 + 3 * d)) D G ad sz [.ref (ad 15), .int a] st q := by
  intro d
  induction d with
  | zero => intro a st q sz h; exact absurd h (by intro w; cases w)
  | succ d ih =>
    intro a st q sz h
    exact kX9_readSum l D G ad had n (FSum n d) (8 + 3 * d) (by omega) ih a st q h
def fX9_rs (n : Nat) (a : Int32) (st : St) : Option (Int32 × St) := FSum n 8 a st
theorem kX9_rs (l : Launch) (D : va_G) (G : G3) (ad : Nat → Nat) (had : Adr ad) (n : Nat) (a : Int32) (st : St) (q : Int32 × St) (h : fX9_rs n a st = some q) {sz : Nat} : CtI l yX9_readSum (wsU yX9_readSum cX9_readSum 5 (some .boolean)) (rmK 32) D G ad sz [.ref (ad 15), .int a] st q := kFSum l D G ad had n 8 a st q sz h
section
variable {p : Program} {l : Launch} {e : Env} {s : State} {m : MethodId} {args : Array Value} {below : List Frame} {meth : Method} {c : Code} {D : va_G} {G : G3} {ad : Nat → Nat}
def fX9_read_s34 (n : Nat)   (k0 : Int32) (st : St) : Option (Int32 × St) := if zb k0 = true then (some (k0, st)) else none
set_option maxHeartbeats 4000000 in
set_option maxRecDepth 100000 in
theorem wX9_read_s34 (C : Cx p s m args meth c cX9_read 1 wsL_law RX9 (some .boolean) D G ad) (n : Nat)   (k0 : Int32)   (st : St) (res : (Int32 × St))  (hf : fX9_read_s34 n   k0 st = some res) : At p l e (rmK 33) s m args below meth c D G ad (MQI D G ad below args s res) 1 st [] 34 [.int k0] := by
  obtain ⟨hx, hb, hml, hown, hts, hr, hlk, hK, had, hSt⟩ := id C
  intro H locs ls hl hP hS
  unfold fX9_read_s34 at hf
  obtain ⟨gz, hf⟩ := gd hf
  exact g_zret hx hb hr hlk hP hS (zb_of gz) dX9_read_34 hf
def fX9_read_s33 (n : Nat)    (st : St) : Option (Int32 × St) := fX9_read_s34 n 0 st
set_option maxHeartbeats 4000000 in
set_option maxRecDepth 100000 in
theorem wX9_read_s33 (C : Cx p s m args meth c cX9_read 1 wsL_law RX9 (some .boolean) D G ad) (n : Nat)      (st : St) (res : (Int32 × St))  (hf : fX9_read_s33 n    st = some res) : At p l e (rmK 33) s m args below meth c D G ad (MQI D G ad below args s res) 1 st [] 33 [] := by
  obtain ⟨hx, hb, hml, hown, hts, hr, hlk, hK, had, hSt⟩ := id C
  intro H locs ls hl hP hS
  unfold fX9_read_s33 at hf
  refine lv_iconst (v := 0) hx hb dX9_read_33 (by decide) ?_
  exact wX9_read_s34 C n 0 st res hf H locs ls (lv_sub hl [] rfl) hP hS
def fX9_read_s29 (n : Nat)    (st : St) : Option (Int32 × St) := fX9_read_s34 n 1 st
set_option maxHeartbeats 4000000 in
set_option maxRecDepth 100000 in
theorem wX9_read_s29 (C : Cx p s m args meth c cX9_read 1 wsL_law RX9 (some .boolean) D G ad) (n : Nat)      (st : St) (res : (Int32 × St))  (hf : fX9_read_s29 n    st = some res) : At p l e (rmK 33) s m args below meth c D G ad (MQI D G ad below args s res) 1 st [] 29 [] := by
  obtain ⟨hx, hb, hml, hown, hts, hr, hlk, hK, had, hSt⟩ := id C
  intro H locs ls hl hP hS
  unfold fX9_read_s29 at hf
  refine lv_iconst (v := 1) hx hb dX9_read_29 (by decide) ?_
  refine lv_goto (tgt := 34) hx hb dX9_read_30 (by decide) ?_
  exact wX9_read_s34 C n 1 st res hf H locs ls (lv_sub hl [] rfl) hP hS
def fX9_read_s18 (n : Nat)    (st : St) : Option (Int32 × St) := if (st.1 15 3) = (st.1 15 2) then fX9_read_s29 n st else fX9_read_s33 n st
set_option maxHeartbeats 4000000 in
set_option maxRecDepth 100000 in
theorem wX9_read_s18 (C : Cx p s m args meth c cX9_read 1 wsL_law RX9 (some .boolean) D G ad) (n : Nat)      (st : St) (res : (Int32 × St))  (hf : fX9_read_s18 n    st = some res) : At p l e (rmK 33) s m args below meth c D G ad (MQI D G ad below args s res) 1 st [(0, .ref (ad 15))] 18 [] := by
  obtain ⟨hx, hb, hml, hown, hts, hr, hlk, hK, had, hSt⟩ := id C
  intro H locs ls hl hP hS
  unfold fX9_read_s18 at hf
  refine lv_aload_n hx hb dX9_read_18 rfl (lv_at hl 0 rfl) ?_
  refine g_getI hx hb hts inlX9 hown hK hP 15 ct_15 rfl 3 (by decide) (hts _ wm_26_1) rfl dX9_read_19 ?_
  refine lv_aload_n hx hb dX9_read_22 rfl (lv_at hl 0 rfl) ?_
  refine g_getI hx hb hts inlX9 hown hK hP 15 ct_15 rfl 2 (by decide) (hts _ wm_25_5) rfl dX9_read_23 ?_
  refine lv_icmp_ne (tgt := 33) hx hb dX9_read_26 (by decide) (fun q => ?_) (fun q => ?_)
  · exact wX9_read_s33 C n st res (ie hf q) H locs ls (lv_sub hl [] rfl) hP hS
  · exact wX9_read_s29 C n st res (it hf q) H locs ls (lv_sub hl [] rfl) hP hS
def fX9_read_s15 (n : Nat)   (k0 : Int32) (st : St) : Option (Int32 × St) := if k0 = 0 then fX9_read_s33 n st else fX9_read_s18 n st
set_option maxHeartbeats 4000000 in
set_option maxRecDepth 100000 in
theorem wX9_read_s15 (C : Cx p s m args meth c cX9_read 1 wsL_law RX9 (some .boolean) D G ad) (n : Nat)   (k0 : Int32)   (st : St) (res : (Int32 × St))  (hf : fX9_read_s15 n   k0 st = some res) : At p l e (rmK 33) s m args below meth c D G ad (MQI D G ad below args s res) 1 st [(0, .ref (ad 15))] 15 [.int k0] := by
  obtain ⟨hx, hb, hml, hown, hts, hr, hlk, hK, had, hSt⟩ := id C
  intro H locs ls hl hP hS
  unfold fX9_read_s15 at hf
  refine lv_if_eq (tgt := 33) hx hb dX9_read_15 (by decide) (fun q => ?_) (fun q => ?_)
  · exact wX9_read_s33 C n st res (it hf q) H locs ls (lv_sub hl [] rfl) hP hS
  · exact wX9_read_s18 C n st res (ie hf q) H locs ls (lv_sub hl [0] rfl) hP hS
def fX9_read_s10 (n : Nat)    (st : St) : Option (Int32 × St) := (fX9_rs n 0 st).bind (fun q => fX9_read_s15 n q.1 q.2)
set_option maxHeartbeats 4000000 in
set_option maxRecDepth 100000 in
theorem wX9_read_s10 (C : Cx p s m args meth c cX9_read 1 wsL_law RX9 (some .boolean) D G ad) (n : Nat)      (st : St) (res : (Int32 × St))  (hf : fX9_read_s10 n    st = some res) : At p l e (rmK 33) s m args below meth c D G ad (MQI D G ad below args s res) 1 st [(0, .ref (ad 15))] 10 [] := by
  obtain ⟨hx, hb, hml, hown, hts, hr, hlk, hK, had, hSt⟩ := id C
  intro H locs ls hl hP hS
  unfold fX9_read_s10 at hf
  refine lv_aload_n hx hb dX9_read_10 rfl (lv_at hl 0 rfl) ?_
  refine lv_iconst (v := 0) hx hb dX9_read_11 (by decide) ?_
  obtain ⟨q, hq, hf⟩ := bd hf
  refine gcV_i (k := 32) (o := 15) (As := [.int 0]) (rest := []) hx hb hml hown hts hK hSt hP hS hl.1 (goodV wm_26_3 wm_26_4 wm_26_5 wm_1_23 wm_26_6) okX9_readSum ct_15 rfl rfl (Nat.le_of_ble_eq_true rfl) (Nat.le_of_ble_eq_true rfl) rfl rfl (Nat.le_of_ble_eq_true rfl) dX9_read_12 (kX9_rs l D G ad had n 0 st q hq) (fun H locs hP hS => ?_)
  exact wX9_read_s15 C n q.1 q.2 res hf H locs ls (lv_sub hl [0] rfl) hP hS
def fX9_read_s5 (n : Nat)    (st : St) : Option (Int32 × St) := fX9_read_s10 n (setI st 15 4 0)
set_option maxHeartbeats 4000000 in
set_option maxRecDepth 100000 in
theorem wX9_read_s5 (C : Cx p s m args meth c cX9_read 1 wsL_law RX9 (some .boolean) D G ad) (n : Nat)      (st : St) (res : (Int32 × St))  (hf : fX9_read_s5 n    st = some res) : At p l e (rmK 33) s m args below meth c D G ad (MQI D G ad below args s res) 1 st [(0, .ref (ad 15))] 5 [] := by
  obtain ⟨hx, hb, hml, hown, hts, hr, hlk, hK, had, hSt⟩ := id C
  intro H locs ls hl hP hS
  unfold fX9_read_s5 at hf
  refine lv_aload_n hx hb dX9_read_5 rfl (lv_at hl 0 rfl) ?_
  refine lv_iconst (v := 0) hx hb dX9_read_6 (by decide) ?_
  refine g_putI hx hb hts inlX9 tyX9_ok nmX9 hown hK had hP hS 15 ct_15 rfl 4 (by decide) (hts _ wm_26_2) rfl rfl rfl rfl rfl dX9_read_7 (fun H locs hP hS => ?_)
  exact wX9_read_s10 C n (setI st 15 4 0) res hf H locs ls (lv_sub hl [0] rfl) hP hS
def fX9_read_s0 (n : Nat)    (st : St) : Option (Int32 × St) := fX9_read_s5 n (setI st 15 3 0)
set_option maxHeartbeats 4000000 in
set_option maxRecDepth 100000 in
theorem wX9_read_s0 (C : Cx p s m args meth c cX9_read 1 wsL_law RX9 (some .boolean) D G ad) (n : Nat)      (st : St) (res : (Int32 × St))  (hf : fX9_read_s0 n    st = some res) : At p l e (rmK 33) s m args below meth c D G ad (MQI D G ad below args s res) 1 st [(0, .ref (ad 15))] 0 [] := by
  obtain ⟨hx, hb, hml, hown, hts, hr, hlk, hK, had, hSt⟩ := id C
  intro H locs ls hl hP hS
  unfold fX9_read_s0 at hf
  refine lv_aload_n hx hb dX9_read_0 rfl (lv_at hl 0 rfl) ?_
  refine lv_iconst (v := 0) hx hb dX9_read_1 (by decide) ?_
  refine g_putI hx hb hts inlX9 tyX9_ok nmX9 hown hK had hP hS 15 ct_15 rfl 3 (by decide) (hts _ wm_26_1) rfl rfl rfl rfl rfl dX9_read_2 (fun H locs hP hS => ?_)
  exact wX9_read_s5 C n (setI st 15 3 0) res hf H locs ls (lv_sub hl [0] rfl) hP hS
def fX9_read (n : Nat)   (st : St) : Option (Int32 × St) := fX9_read_s0 n st
theorem okX9_read : okY yX9_read RX9 0 := by unfold okY; decide +kernel
end
set_option maxRecDepth 100000 in
theorem kX9_read (l : Launch) (D : va_G) (G : G3) (ad : Nat → Nat) (had : Adr ad) (n : Nat)    (st : St) (res : (Int32 × St)) (hf : fX9_read n   st = some res) {sz : Nat} : CtI l yX9_read (wsU yX9_read cX9_read 1 (some .boolean)) (rmK 33) D G ad sz [.ref (ad 15)] st res := by
  refine Met.ofW (cc := cX9_read) (maxL := 1) (ret := (some .boolean)) (by decide) rfl ?_
  intro p e s m args below meth c s₁ B hml hv
  obtain ⟨rfl, hsz, hP, hK, hSt⟩ := hv
  have hts := atoms_spec (ws := wsU yX9_read cX9_read 1 (some .boolean)) B.pre
  have C : Cx p s m _ meth c cX9_read 1 wsL_law RX9 (some .boolean) D G ad := ⟨B.exec, B.bytes, hml, findClass_of_methodNamed B.named, fun w h => hts w (List.mem_cons_of_mem _ h), B.returns, B.notSynchronized, hK, had, hSt⟩
  subst hsz
  have hl := lv_entry ([.ref (ad 15)]) (n := 1) (Nat.le_of_ble_eq_true rfl)
  rw [lg_entry_eq]
  generalize (lg_sl ([.ref (ad 15)]) ++ List.replicate (1 - (lg_sl ([.ref (ad 15)])).length) Slot.unset).toArray = ls at hl ⊢
  exact wX9_read_s0 C n     st res hf s.heap [] ls (lv_sub hl [0] rfl) hP va_S.rf
