theorem wm_1_23 : Cond.initialized RX9 ∈ wsL_law := in_r1 _ (mm_at 23 rfl)
theorem wm_4_9 : Cond.fieldLink RX9 9 "OrderEcho$Tape" "bytes" "[I" ∈ wsL_law := in_r4 _ (mm_at 9 rfl)
theorem wm_4_10 : Cond.fieldLink RX9 15 "OrderEcho$Tape" "code" "[I" ∈ wsL_law := in_r4 _ (mm_at 10 rfl)
theorem wm_25_5 : Cond.fieldLink RX9 18 "OrderEcho$Tape" "length" "I" ∈ wsL_law := in_r25 _ (mm_at 5 rfl)
theorem wm_26_1 : Cond.fieldLink RX9 22 "OrderEcho$Tape" "at" "I" ∈ wsL_law := in_r26 _ (mm_at 1 rfl)
theorem wm_26_2 : Cond.fieldLink RX9 25 "OrderEcho$Tape" "size" "I" ∈ wsL_law := in_r26 _ (mm_at 2 rfl)
theorem wm_26_10 : Cond.methodLink RX9 32 yX9_isNext ∈ wsL_law := in_r26 _ (mm_at 10 rfl)
theorem wm_26_11 : Cond.instanceMethod yX9_isNext ∈ wsL_law := in_r26 _ (mm_at 11 rfl)
theorem wm_26_12 : Cond.selects RX9 yX9_isNext yX9_isNext ∈ wsL_law := in_r26 _ (mm_at 12 rfl)
theorem wm_26_13 : Cond.code yX9_isNext cX9_isNext 2 (some .boolean) ∈ wsL_law := in_r26 _ (mm_at 13 rfl)
theorem wm_26_14 : Cond.methodLink RX9 41 yX9_emit ∈ wsL_law := in_r26 _ (mm_at 14 rfl)
theorem wm_26_15 : Cond.instanceMethod yX9_emit ∈ wsL_law := in_r26 _ (mm_at 15 rfl)
theorem wm_26_16 : Cond.selects RX9 yX9_emit yX9_emit ∈ wsL_law := in_r26 _ (mm_at 16 rfl)
theorem wm_26_17 : Cond.code yX9_emit cX9_emit 2 none ∈ wsL_law := in_r26 _ (mm_at 17 rfl)
theorem wm_26_19 : Cond.methodLink RX9 48 yX9_isDigit ∈ wsL_law := in_r26 _ (mm_at 19 rfl)
theorem wm_26_20 : Cond.instanceMethod yX9_isDigit ∈ wsL_law := in_r26 _ (mm_at 20 rfl)
theorem wm_26_21 : Cond.selects RX9 yX9_isDigit yX9_isDigit ∈ wsL_law := in_r26 _ (mm_at 21 rfl)
theorem wm_26_22 : Cond.code yX9_isDigit cX9_isDigit 1 (some .boolean) ∈ wsL_law := in_r26 _ (mm_at 22 rfl)
theorem wm_27_7 : Cond.methodLink RX9 58 yX9_take ∈ wsL_law := in_r27 _ (mm_at 7 rfl)
theorem wm_27_8 : Cond.instanceMethod yX9_take ∈ wsL_law := in_r27 _ (mm_at 8 rfl)
theorem wm_27_9 : Cond.selects RX9 yX9_take yX9_take ∈ wsL_law := in_r27 _ (mm_at 9 rfl)
theorem wm_27_10 : Cond.code yX9_take cX9_take 3 (some .boolean) ∈ wsL_law := in_r27 _ (mm_at 10 rfl)
section
variable {p : Program} {l : Launch} {e : Env} {s : State} {m : MethodId} {args : Array Value} {below : List Frame} {meth : Method} {c : Code} {D : va_G} {G : G3} {ad : Nat → Nat}
def fX9_append_s32 (n : Nat)    (st : St) : Option (Unit × St) := some ((), st)
set_option maxHeartbeats 4000000 in
set_option maxRecDepth 100000 in
theorem wX9_append_s32 (C : Cx p s m args meth c cX9_append 2 wsL_law RX9 none D G ad) (n : Nat)      (st : St) (res : (Unit × St))  (hf : fX9_append_s32 n    st = some res) : At p l e (rmK 0) s m args below meth c D G ad (MQV D G ad below args s res) 2 st [] 32 [] := by
  obtain ⟨hx, hb, hml, hown, hts, hr, hlk, hK, had⟩ := id C
  intro H locs ls hl hP hS
  unfold fX9_append_s32 at hf
  exact g_vret hx hb hr hlk hP hS dX9_append_32 hf
def fX9_append_s22 (n : Nat)    (st : St) : Option (Unit × St) := fX9_append_s32 n (setI st 15 2 ((st.1 15 2) + 1))
set_option maxHeartbeats 4000000 in
set_option maxRecDepth 100000 in
theorem wX9_append_s22 (C : Cx p s m args meth c cX9_append 2 wsL_law RX9 none D G ad) (n : Nat)      (st : St) (res : (Unit × St))  (hf : fX9_append_s22 n    st = some res) : At p l e (rmK 0) s m args below meth c D G ad (MQV D G ad below args s res) 2 st [(0, .ref (ad 15))] 22 [] := by
  obtain ⟨hx, hb, hml, hown, hts, hr, hlk, hK, had⟩ := id C
  intro H locs ls hl hP hS
  unfold fX9_append_s22 at hf
  refine lv_aload_n hx hb dX9_append_22 rfl (lv_at hl 0 rfl) ?_
  refine lv_dup hx hb dX9_append_23 rfl ?_
  refine g_getI hx hb hts inlX9 hown hK hP 15 ct_15 rfl 2 (by decide) (hts _ wm_25_5) rfl dX9_append_24 ?_
  refine lv_iconst (v := 1) hx hb dX9_append_27 (by decide) ?_
  refine lv_iadd hx hb dX9_append_28 ?_
  refine g_putI hx hb hts inlX9 tyX9_ok nmX9 hown hK had hP hS 15 ct_15 rfl 2 (by decide) (hts _ wm_25_5) rfl rfl rfl rfl rfl dX9_append_29 (fun H locs hP hS => ?_)
  exact wX9_append_s32 C n (setI st 15 2 ((st.1 15 2) + 1)) res hf H locs ls (lv_sub hl [] rfl) hP hS
def fX9_append_s12 (n : Nat)   (v1 : Int32) (st : St) : Option (Unit × St) := if inb (st.1 15 2) 120 = true then (fX9_append_s22 n (setI st 16 (st.1 15 2).toNatClampNeg v1)) else none
set_option maxHeartbeats 4000000 in
set_option maxRecDepth 100000 in
theorem wX9_append_s12 (C : Cx p s m args meth c cX9_append 2 wsL_law RX9 none D G ad) (n : Nat)   (v1 : Int32)   (st : St) (res : (Unit × St))  (hf : fX9_append_s12 n   v1 st = some res) : At p l e (rmK 0) s m args below meth c D G ad (MQV D G ad below args s res) 2 st [(0, .ref (ad 15)), (1, .int v1)] 12 [] := by
  obtain ⟨hx, hb, hml, hown, hts, hr, hlk, hK, had⟩ := id C
  intro H locs ls hl hP hS
  unfold fX9_append_s12 at hf
  refine lv_aload_n hx hb dX9_append_12 rfl (lv_at hl 0 rfl) ?_
  refine g_getR hx hb hts inlX9 hown hK hP 15 ct_15 rfl 0 (by decide) (hts _ wm_4_9) rfl dX9_append_13 ?_
  refine lv_aload_n hx hb dX9_append_16 rfl (lv_at hl 0 rfl) ?_
  refine g_getI hx hb hts inlX9 hown hK hP 15 ct_15 rfl 2 (by decide) (hts _ wm_25_5) rfl dX9_append_17 ?_
  refine lv_iload_n hx hb dX9_append_20 rfl (lv_at hl 1 rfl) ?_
  obtain ⟨g1, hf⟩ := gd hf
  refine g_iast hx hb hK had hP hS 16 ct_16 g1 dX9_append_21 (fun H locs hP hS => ?_)
  exact wX9_append_s22 C n (setI st 16 (st.1 15 2).toNatClampNeg v1) res hf H locs ls (lv_sub hl [0] rfl) hP hS
def fX9_append_s0 (n : Nat)   (v1 : Int32) (st : St) : Option (Unit × St) := if 120 ≤ (st.1 15 2) then fX9_append_s32 n st else fX9_append_s12 n v1 st
set_option maxHeartbeats 4000000 in
set_option maxRecDepth 100000 in
theorem wX9_append_s0 (C : Cx p s m args meth c cX9_append 2 wsL_law RX9 none D G ad) (n : Nat)   (v1 : Int32)   (st : St) (res : (Unit × St))  (hf : fX9_append_s0 n   v1 st = some res) : At p l e (rmK 0) s m args below meth c D G ad (MQV D G ad below args s res) 2 st [(0, .ref (ad 15)), (1, .int v1)] 0 [] := by
  obtain ⟨hx, hb, hml, hown, hts, hr, hlk, hK, had⟩ := id C
  intro H locs ls hl hP hS
  unfold fX9_append_s0 at hf
  refine lv_aload_n hx hb dX9_append_0 rfl (lv_at hl 0 rfl) ?_
  refine g_getI hx hb hts inlX9 hown hK hP 15 ct_15 rfl 2 (by decide) (hts _ wm_25_5) rfl dX9_append_1 ?_
  refine lv_aload_n hx hb dX9_append_4 rfl (lv_at hl 0 rfl) ?_
  refine g_getR hx hb hts inlX9 hown hK hP 15 ct_15 rfl 0 (by decide) (hts _ wm_4_9) rfl dX9_append_5 ?_
  refine g_alen hx hb hK hP 16 ct_16 dX9_append_8 ?_
  refine lv_topc (v := 120) (by decide) ?_
  refine lv_icmp_ge (tgt := 32) hx hb dX9_append_9 (by decide) (fun q => ?_) (fun q => ?_)
  · exact wX9_append_s32 C n st res (it hf q) H locs ls (lv_sub hl [] rfl) hP hS
  · exact wX9_append_s12 C n v1 st res (ie hf q) H locs ls (lv_sub hl [0, 1] rfl) hP hS
def fX9_append (n : Nat)  (a1 : Int32) (st : St) : Option (Unit × St) := fX9_append_s0 n a1 st
theorem okX9_append : okY yX9_append RX9 1 := by unfold okY; decide +kernel
end
set_option maxRecDepth 100000 in
theorem kX9_append (l : Launch) (D : va_G) (G : G3) (ad : Nat → Nat) (had : Adr ad) (n : Nat)   (a1 : Int32) (st : St) (res : (Unit × St)) (hf : fX9_append n  a1 st = some res) {sz : Nat} : CtV l yX9_append (wsU yX9_append cX9_append 2 none) (rmK 0) D G ad sz [.ref (ad 15), .int a1] st res := by
  refine Met.ofW (cc := cX9_append) (maxL := 2) (ret := none) (by decide) rfl ?_
  intro p e s m args below meth c s₁ B hml hv
  obtain ⟨rfl, hsz, hP, hK⟩ := hv
  have hts := atoms_spec (ws := wsU yX9_append cX9_append 2 none) B.pre
  have C : Cx p s m _ meth c cX9_append 2 wsL_law RX9 none D G ad := ⟨B.exec, B.bytes, hml, findClass_of_methodNamed B.named, fun w h => hts w (List.mem_cons_of_mem _ h), B.returns, B.notSynchronized, hK, had⟩
  subst hsz
  have hl := lv_entry ([.ref (ad 15), .int a1]) (n := 2) (Nat.le_of_ble_eq_true rfl)
  rw [lg_entry_eq]
  generalize (lg_sl ([.ref (ad 15), .int a1]) ++ List.replicate (2 - (lg_sl ([.ref (ad 15), .int a1])).length) Slot.unset).toArray = ls at hl ⊢
  exact wX9_append_s0 C n  a1   st res hf s.heap [] ls (lv_sub hl [0, 1] rfl) hP va_S.rf
section
variable {p : Program} {l : Launch} {e : Env} {s : State} {m : MethodId} {args : Array Value} {below : List Frame} {meth : Method} {c : Code} {D : va_G} {G : G3} {ad : Nat → Nat}
def fX9_isNext_s29 (n : Nat)   (k0 : Int32) (st : St) : Option (Int32 × St) := if zb k0 = true then (some (k0, st)) else none
set_option maxHeartbeats 4000000 in
set_option maxRecDepth 100000 in
theorem wX9_isNext_s29 (C : Cx p s m args meth c cX9_isNext 2 wsL_law RX9 (some .boolean) D G ad) (n : Nat)   (k0 : Int32)   (st : St) (res : (Int32 × St))  (hf : fX9_isNext_s29 n   k0 st = some res) : At p l e (rmK 0) s m args below meth c D G ad (MQI D G ad below args s res) 2 st [] 29 [.int k0] := by
  obtain ⟨hx, hb, hml, hown, hts, hr, hlk, hK, had⟩ := id C
  intro H locs ls hl hP hS
  unfold fX9_isNext_s29 at hf
  obtain ⟨gz, hf⟩ := gd hf
  exact g_zret hx hb hr hlk hP hS (zb_of gz) dX9_isNext_29 hf
def fX9_isNext_s28 (n : Nat)    (st : St) : Option (Int32 × St) := fX9_isNext_s29 n 0 st
set_option maxHeartbeats 4000000 in
set_option maxRecDepth 100000 in
theorem wX9_isNext_s28 (C : Cx p s m args meth c cX9_isNext 2 wsL_law RX9 (some .boolean) D G ad) (n : Nat)      (st : St) (res : (Int32 × St))  (hf : fX9_isNext_s28 n    st = some res) : At p l e (rmK 0) s m args below meth c D G ad (MQI D G ad below args s res) 2 st [] 28 [] := by
  obtain ⟨hx, hb, hml, hown, hts, hr, hlk, hK, had⟩ := id C
  intro H locs ls hl hP hS
  unfold fX9_isNext_s28 at hf
  refine lv_iconst (v := 0) hx hb dX9_isNext_28 (by decide) ?_
  exact wX9_isNext_s29 C n 0 st res hf H locs ls (lv_sub hl [] rfl) hP hS
def fX9_isNext_s24 (n : Nat)    (st : St) : Option (Int32 × St) := fX9_isNext_s29 n 1 st
set_option maxHeartbeats 4000000 in
set_option maxRecDepth 100000 in
theorem wX9_isNext_s24 (C : Cx p s m args meth c cX9_isNext 2 wsL_law RX9 (some .boolean) D G ad) (n : Nat)      (st : St) (res : (Int32 × St))  (hf : fX9_isNext_s24 n    st = some res) : At p l e (rmK 0) s m args below meth c D G ad (MQI D G ad below args s res) 2 st [] 24 [] := by
  obtain ⟨hx, hb, hml, hown, hts, hr, hlk, hK, had⟩ := id C
  intro H locs ls hl hP hS
  unfold fX9_isNext_s24 at hf
  refine lv_iconst (v := 1) hx hb dX9_isNext_24 (by decide) ?_
  refine lv_goto (tgt := 29) hx hb dX9_isNext_25 (by decide) ?_
  exact wX9_isNext_s29 C n 1 st res hf H locs ls (lv_sub hl [] rfl) hP hS
def fX9_isNext_s11 (n : Nat)   (v1 : Int32) (st : St) : Option (Int32 × St) := if inb (st.1 15 3) 120 = true then (if (st.1 16 (st.1 15 3).toNatClampNeg) = v1 then fX9_isNext_s24 n st else fX9_isNext_s28 n st) else none
set_option maxHeartbeats 4000000 in
set_option maxRecDepth 100000 in
theorem wX9_isNext_s11 (C : Cx p s m args meth c cX9_isNext 2 wsL_law RX9 (some .boolean) D G ad) (n : Nat)   (v1 : Int32)   (st : St) (res : (Int32 × St))  (hf : fX9_isNext_s11 n   v1 st = some res) : At p l e (rmK 0) s m args below meth c D G ad (MQI D G ad below args s res) 2 st [(0, .ref (ad 15)), (1, .int v1)] 11 [] := by
  obtain ⟨hx, hb, hml, hown, hts, hr, hlk, hK, had⟩ := id C
  intro H locs ls hl hP hS
  unfold fX9_isNext_s11 at hf
  refine lv_aload_n hx hb dX9_isNext_11 rfl (lv_at hl 0 rfl) ?_
  refine g_getR hx hb hts inlX9 hown hK hP 15 ct_15 rfl 0 (by decide) (hts _ wm_4_9) rfl dX9_isNext_12 ?_
  refine lv_aload_n hx hb dX9_isNext_15 rfl (lv_at hl 0 rfl) ?_
  refine g_getI hx hb hts inlX9 hown hK hP 15 ct_15 rfl 3 (by decide) (hts _ wm_26_1) rfl dX9_isNext_16 ?_
  obtain ⟨g1, hf⟩ := gd hf
  refine g_iald hx hb hK hP 16 ct_16 g1 dX9_isNext_19 ?_
  refine lv_iload_n hx hb dX9_isNext_20 rfl (lv_at hl 1 rfl) ?_
  refine lv_icmp_ne (tgt := 28) hx hb dX9_isNext_21 (by decide) (fun q => ?_) (fun q => ?_)
  · exact wX9_isNext_s28 C n st res (ie hf q) H locs ls (lv_sub hl [] rfl) hP hS
  · exact wX9_isNext_s24 C n st res (it hf q) H locs ls (lv_sub hl [] rfl) hP hS
def fX9_isNext_s0 (n : Nat)   (v1 : Int32) (st : St) : Option (Int32 × St) := if (st.1 15 2) ≤ (st.1 15 3) then fX9_isNext_s28 n st else fX9_isNext_s11 n v1 st
set_option maxHeartbeats 4000000 in
set_option maxRecDepth 100000 in
theorem wX9_isNext_s0 (C : Cx p s m args meth c cX9_isNext 2 wsL_law RX9 (some .boolean) D G ad) (n : Nat)   (v1 : Int32)   (st : St) (res : (Int32 × St))  (hf : fX9_isNext_s0 n   v1 st = some res) : At p l e (rmK 0) s m args below meth c D G ad (MQI D G ad below args s res) 2 st [(0, .ref (ad 15)), (1, .int v1)] 0 [] := by
  obtain ⟨hx, hb, hml, hown, hts, hr, hlk, hK, had⟩ := id C
  intro H locs ls hl hP hS
  unfold fX9_isNext_s0 at hf
  refine lv_aload_n hx hb dX9_isNext_0 rfl (lv_at hl 0 rfl) ?_
  refine g_getI hx hb hts inlX9 hown hK hP 15 ct_15 rfl 3 (by decide) (hts _ wm_26_1) rfl dX9_isNext_1 ?_
  refine lv_aload_n hx hb dX9_isNext_4 rfl (lv_at hl 0 rfl) ?_
  refine g_getI hx hb hts inlX9 hown hK hP 15 ct_15 rfl 2 (by decide) (hts _ wm_25_5) rfl dX9_isNext_5 ?_
  refine lv_icmp_ge (tgt := 28) hx hb dX9_isNext_8 (by decide) (fun q => ?_) (fun q => ?_)
  · exact wX9_isNext_s28 C n st res (it hf q) H locs ls (lv_sub hl [] rfl) hP hS
  · exact wX9_isNext_s11 C n v1 st res (ie hf q) H locs ls (lv_sub hl [0, 1] rfl) hP hS
def fX9_isNext (n : Nat)  (a1 : Int32) (st : St) : Option (Int32 × St) := fX9_isNext_s0 n a1 st
theorem okX9_isNext : okY yX9_isNext RX9 1 := by unfold okY; decide +kernel
end
set_option maxRecDepth 100000 in
theorem kX9_isNext (l : Launch) (D : va_G) (G : G3) (ad : Nat → Nat) (had : Adr ad) (n : Nat)   (a1 : Int32) (st : St) (res : (Int32 × St)) (hf : fX9_isNext n  a1 st = some res) {sz : Nat} : CtI l yX9_isNext (wsU yX9_isNext cX9_isNext 2 (some .boolean)) (rmK 0) D G ad sz [.ref (ad 15), .int a1] st res := by
  refine Met.ofW (cc := cX9_isNext) (maxL := 2) (ret := (some .boolean)) (by decide) rfl ?_
  intro p e s m args below meth c s₁ B hml hv
  obtain ⟨rfl, hsz, hP, hK⟩ := hv
  have hts := atoms_spec (ws := wsU yX9_isNext cX9_isNext 2 (some .boolean)) B.pre
  have C : Cx p s m _ meth c cX9_isNext 2 wsL_law RX9 (some .boolean) D G ad := ⟨B.exec, B.bytes, hml, findClass_of_methodNamed B.named, fun w h => hts w (List.mem_cons_of_mem _ h), B.returns, B.notSynchronized, hK, had⟩
  subst hsz
  have hl := lv_entry ([.ref (ad 15), .int a1]) (n := 2) (Nat.le_of_ble_eq_true rfl)
  rw [lg_entry_eq]
  generalize (lg_sl ([.ref (ad 15), .int a1]) ++ List.replicate (2 - (lg_sl ([.ref (ad 15), .int a1])).length) Slot.unset).toArray = ls at hl ⊢
  exact wX9_isNext_s0 C n  a1   st res hf s.heap [] ls (lv_sub hl [0, 1] rfl) hP va_S.rf
section
variable {p : Program} {l : Launch} {e : Env} {s : State} {m : MethodId} {args : Array Value} {below : List Frame} {meth : Method} {c : Code} {D : va_G} {G : G3} {ad : Nat → Nat}
def fX9_take_s24 (n : Nat)   (v2 : Int32) (st : St) : Option (Int32 × St) := if zb v2 = true then (some (v2, st)) else none
set_option maxHeartbeats 4000000 in
set_option maxRecDepth 100000 in
theorem wX9_take_s24 (C : Cx p s m args meth c cX9_take 3 wsL_law RX9 (some .boolean) D G ad) (n : Nat)   (v2 : Int32)   (st : St) (res : (Int32 × St))  (hf : fX9_take_s24 n   v2 st = some res) : At p l e (rmK 1) s m args below meth c D G ad (MQI D G ad below args s res) 3 st [(2, .int v2)] 24 [] := by
  obtain ⟨hx, hb, hml, hown, hts, hr, hlk, hK, had⟩ := id C
  intro H locs ls hl hP hS
  unfold fX9_take_s24 at hf
  refine lv_iload_n hx hb dX9_take_24 rfl (lv_at hl 0 rfl) ?_
  obtain ⟨gz, hf⟩ := gd hf
  exact g_zret hx hb hr hlk hP hS (zb_of gz) dX9_take_25 hf
def fX9_take_s20 (n : Nat)   (v2 : Int32) (k1 : Int32) (k2 : Int32) (st : St) : Option (Int32 × St) := fX9_take_s24 n v2 (setI st 15 3 (k1 + k2))
set_option maxHeartbeats 4000000 in
set_option maxRecDepth 100000 in
theorem wX9_take_s20 (C : Cx p s m args meth c cX9_take 3 wsL_law RX9 (some .boolean) D G ad) (n : Nat)   (v2 : Int32) (k1 : Int32) (k2 : Int32)   (st : St) (res : (Int32 × St))  (hf : fX9_take_s20 n   v2 k1 k2 st = some res) : At p l e (rmK 1) s m args below meth c D G ad (MQI D G ad below args s res) 3 st [(2, .int v2)] 20 [.int k2, .int k1, .ref (ad 15)] := by
  obtain ⟨hx, hb, hml, hown, hts, hr, hlk, hK, had⟩ := id C
  intro H locs ls hl hP hS
  unfold fX9_take_s20 at hf
  refine lv_iadd hx hb dX9_take_20 ?_
  refine g_putI hx hb hts inlX9 tyX9_ok nmX9 hown hK had hP hS 15 ct_15 rfl 3 (by decide) (hts _ wm_26_1) rfl rfl rfl rfl rfl dX9_take_21 (fun H locs hP hS => ?_)
  exact wX9_take_s24 C n v2 (setI st 15 3 (k1 + k2)) res hf H locs ls (lv_sub hl [0] rfl) hP hS
def fX9_take_s19 (n : Nat)   (v2 : Int32) (k1 : Int32) (st : St) : Option (Int32 × St) := fX9_take_s20 n v2 k1 0 st
set_option maxHeartbeats 4000000 in
set_option maxRecDepth 100000 in
theorem wX9_take_s19 (C : Cx p s m args meth c cX9_take 3 wsL_law RX9 (some .boolean) D G ad) (n : Nat)   (v2 : Int32) (k1 : Int32)   (st : St) (res : (Int32 × St))  (hf : fX9_take_s19 n   v2 k1 st = some res) : At p l e (rmK 1) s m args below meth c D G ad (MQI D G ad below args s res) 3 st [(2, .int v2)] 19 [.int k1, .ref (ad 15)] := by
  obtain ⟨hx, hb, hml, hown, hts, hr, hlk, hK, had⟩ := id C
  intro H locs ls hl hP hS
  unfold fX9_take_s19 at hf
  refine lv_iconst (v := 0) hx hb dX9_take_19 (by decide) ?_
  exact wX9_take_s20 C n v2 k1 0 st res hf H locs ls (lv_sub hl [0] rfl) hP hS
def fX9_take_s15 (n : Nat)   (v2 : Int32) (k1 : Int32) (st : St) : Option (Int32 × St) := fX9_take_s20 n v2 k1 1 st
set_option maxHeartbeats 4000000 in
set_option maxRecDepth 100000 in
theorem wX9_take_s15 (C : Cx p s m args meth c cX9_take 3 wsL_law RX9 (some .boolean) D G ad) (n : Nat)   (v2 : Int32) (k1 : Int32)   (st : St) (res : (Int32 × St))  (hf : fX9_take_s15 n   v2 k1 st = some res) : At p l e (rmK 1) s m args below meth c D G ad (MQI D G ad below args s res) 3 st [(2, .int v2)] 15 [.int k1, .ref (ad 15)] := by
  obtain ⟨hx, hb, hml, hown, hts, hr, hlk, hK, had⟩ := id C
  intro H locs ls hl hP hS
  unfold fX9_take_s15 at hf
  refine lv_iconst (v := 1) hx hb dX9_take_15 (by decide) ?_
  refine lv_goto (tgt := 20) hx hb dX9_take_16 (by decide) ?_
  exact wX9_take_s20 C n v2 k1 1 st res hf H locs ls (lv_sub hl [0] rfl) hP hS
def fX9_take_s5 (n : Nat)   (k0 : Int32) (st : St) : Option (Int32 × St) := if k0 = 0 then fX9_take_s19 n k0 (st.1 15 3) st else fX9_take_s15 n k0 (st.1 15 3) st
set_option maxHeartbeats 4000000 in
set_option maxRecDepth 100000 in
theorem wX9_take_s5 (C : Cx p s m args meth c cX9_take 3 wsL_law RX9 (some .boolean) D G ad) (n : Nat)   (k0 : Int32)   (st : St) (res : (Int32 × St))  (hf : fX9_take_s5 n   k0 st = some res) : At p l e (rmK 1) s m args below meth c D G ad (MQI D G ad below args s res) 3 st [(0, .ref (ad 15))] 5 [.int k0] := by
  obtain ⟨hx, hb, hml, hown, hts, hr, hlk, hK, had⟩ := id C
  intro H locs ls hl hP hS
  unfold fX9_take_s5 at hf
  refine lv_istore_n (lv' := [(2, .int k0), (0, .ref (ad 15))]) hx hb dX9_take_5 rfl hl (by decide) rfl (fun ls hl => ?_)
  refine lv_aload_n hx hb dX9_take_6 rfl (lv_at hl 1 rfl) ?_
  refine lv_dup hx hb dX9_take_7 rfl ?_
  refine g_getI hx hb hts inlX9 hown hK hP 15 ct_15 rfl 3 (by decide) (hts _ wm_26_1) rfl dX9_take_8 ?_
  refine lv_iload_n hx hb dX9_take_11 rfl (lv_at hl 0 rfl) ?_
  refine lv_if_eq (tgt := 19) hx hb dX9_take_12 (by decide) (fun q => ?_) (fun q => ?_)
  · exact wX9_take_s19 C n k0 (st.1 15 3) st res (it hf q) H locs ls (lv_sub hl [0] rfl) hP hS
  · exact wX9_take_s15 C n k0 (st.1 15 3) st res (ie hf q) H locs ls (lv_sub hl [0] rfl) hP hS
def fX9_take_s0 (n : Nat)   (v1 : Int32) (st : St) : Option (Int32 × St) := (fX9_isNext n v1 st).bind (fun q => fX9_take_s5 n q.1 q.2)
set_option maxHeartbeats 4000000 in
set_option maxRecDepth 100000 in
theorem wX9_take_s0 (C : Cx p s m args meth c cX9_take 3 wsL_law RX9 (some .boolean) D G ad) (n : Nat)   (v1 : Int32)   (st : St) (res : (Int32 × St))  (hf : fX9_take_s0 n   v1 st = some res) : At p l e (rmK 1) s m args below meth c D G ad (MQI D G ad below args s res) 3 st [(0, .ref (ad 15)), (1, .int v1)] 0 [] := by
  obtain ⟨hx, hb, hml, hown, hts, hr, hlk, hK, had⟩ := id C
  intro H locs ls hl hP hS
  unfold fX9_take_s0 at hf
  refine lv_aload_n hx hb dX9_take_0 rfl (lv_at hl 0 rfl) ?_
  refine lv_iload_n hx hb dX9_take_1 rfl (lv_at hl 1 rfl) ?_
  obtain ⟨q, hq, hf⟩ := bd hf
  refine gcV_i (k := 0) (o := 15) (As := [.int v1]) (rest := []) hx hb hml hown hts hK hP hS hl.1 (goodV wm_26_10 wm_26_11 wm_26_12 wm_1_23 wm_26_13) okX9_isNext ct_15 rfl rfl (Nat.le_of_ble_eq_true rfl) (Nat.le_of_ble_eq_true rfl) rfl rfl (Nat.le_of_ble_eq_true rfl) dX9_take_2 (kX9_isNext l D G ad had n  v1 st q hq) (fun H locs hP hS => ?_)
  exact wX9_take_s5 C n q.1 q.2 res hf H locs ls (lv_sub hl [0] rfl) hP hS
def fX9_take (n : Nat)  (a1 : Int32) (st : St) : Option (Int32 × St) := fX9_take_s0 n a1 st
theorem okX9_take : okY yX9_take RX9 1 := by unfold okY; decide +kernel
end
set_option maxRecDepth 100000 in
theorem kX9_take (l : Launch) (D : va_G) (G : G3) (ad : Nat → Nat) (had : Adr ad) (n : Nat)   (a1 : Int32) (st : St) (res : (Int32 × St)) (hf : fX9_take n  a1 st = some res) {sz : Nat} : CtI l yX9_take (wsU yX9_take cX9_take 3 (some .boolean)) (rmK 1) D G ad sz [.ref (ad 15), .int a1] st res := by
  refine Met.ofW (cc := cX9_take) (maxL := 3) (ret := (some .boolean)) (by decide) rfl ?_
  intro p e s m args below meth c s₁ B hml hv
  obtain ⟨rfl, hsz, hP, hK⟩ := hv
  have hts := atoms_spec (ws := wsU yX9_take cX9_take 3 (some .boolean)) B.pre
  have C : Cx p s m _ meth c cX9_take 3 wsL_law RX9 (some .boolean) D G ad := ⟨B.exec, B.bytes, hml, findClass_of_methodNamed B.named, fun w h => hts w (List.mem_cons_of_mem _ h), B.returns, B.notSynchronized, hK, had⟩
  subst hsz
  have hl := lv_entry ([.ref (ad 15), .int a1]) (n := 3) (Nat.le_of_ble_eq_true rfl)
  rw [lg_entry_eq]
  generalize (lg_sl ([.ref (ad 15), .int a1]) ++ List.replicate (3 - (lg_sl ([.ref (ad 15), .int a1])).length) Slot.unset).toArray = ls at hl ⊢
  exact wX9_take_s0 C n  a1   st res hf s.heap [] ls (lv_sub hl [0, 1] rfl) hP va_S.rf
section
variable {p : Program} {l : Launch} {e : Env} {s : State} {m : MethodId} {args : Array Value} {below : List Frame} {meth : Method} {c : Code} {D : va_G} {G : G3} {ad : Nat → Nat}
def fX9_emit_s32 (n : Nat)    (st : St) : Option (Unit × St) := some ((), st)
set_option maxHeartbeats 4000000 in
set_option maxRecDepth 100000 in
theorem wX9_emit_s32 (C : Cx p s m args meth c cX9_emit 2 wsL_law RX9 none D G ad) (n : Nat)      (st : St) (res : (Unit × St))  (hf : fX9_emit_s32 n    st = some res) : At p l e (rmK 0) s m args below meth c D G ad (MQV D G ad below args s res) 2 st [] 32 [] := by
  obtain ⟨hx, hb, hml, hown, hts, hr, hlk, hK, had⟩ := id C
  intro H locs ls hl hP hS
  unfold fX9_emit_s32 at hf
  exact g_vret hx hb hr hlk hP hS dX9_emit_32 hf
def fX9_emit_s22 (n : Nat)    (st : St) : Option (Unit × St) := fX9_emit_s32 n (setI st 15 4 ((st.1 15 4) + 1))
set_option maxHeartbeats 4000000 in
set_option maxRecDepth 100000 in
theorem wX9_emit_s22 (C : Cx p s m args meth c cX9_emit 2 wsL_law RX9 none D G ad) (n : Nat)      (st : St) (res : (Unit × St))  (hf : fX9_emit_s22 n    st = some res) : At p l e (rmK 0) s m args below meth c D G ad (MQV D G ad below args s res) 2 st [(0, .ref (ad 15))] 22 [] := by
  obtain ⟨hx, hb, hml, hown, hts, hr, hlk, hK, had⟩ := id C
  intro H locs ls hl hP hS
  unfold fX9_emit_s22 at hf
  refine lv_aload_n hx hb dX9_emit_22 rfl (lv_at hl 0 rfl) ?_
  refine lv_dup hx hb dX9_emit_23 rfl ?_
  refine g_getI hx hb hts inlX9 hown hK hP 15 ct_15 rfl 4 (by decide) (hts _ wm_26_2) rfl dX9_emit_24 ?_
  refine lv_iconst (v := 1) hx hb dX9_emit_27 (by decide) ?_
  refine lv_iadd hx hb dX9_emit_28 ?_
  refine g_putI hx hb hts inlX9 tyX9_ok nmX9 hown hK had hP hS 15 ct_15 rfl 4 (by decide) (hts _ wm_26_2) rfl rfl rfl rfl rfl dX9_emit_29 (fun H locs hP hS => ?_)
  exact wX9_emit_s32 C n (setI st 15 4 ((st.1 15 4) + 1)) res hf H locs ls (lv_sub hl [] rfl) hP hS
def fX9_emit_s12 (n : Nat)   (v1 : Int32) (st : St) : Option (Unit × St) := if inb (st.1 15 4) 120 = true then (fX9_emit_s22 n (setI st 17 (st.1 15 4).toNatClampNeg v1)) else none
set_option maxHeartbeats 4000000 in
set_option maxRecDepth 100000 in
theorem wX9_emit_s12 (C : Cx p s m args meth c cX9_emit 2 wsL_law RX9 none D G ad) (n : Nat)   (v1 : Int32)   (st : St) (res : (Unit × St))  (hf : fX9_emit_s12 n   v1 st = some res) : At p l e (rmK 0) s m args below meth c D G ad (MQV D G ad below args s res) 2 st [(0, .ref (ad 15)), (1, .int v1)] 12 [] := by
  obtain ⟨hx, hb, hml, hown, hts, hr, hlk, hK, had⟩ := id C
  intro H locs ls hl hP hS
  unfold fX9_emit_s12 at hf
  refine lv_aload_n hx hb dX9_emit_12 rfl (lv_at hl 0 rfl) ?_
  refine g_getR hx hb hts inlX9 hown hK hP 15 ct_15 rfl 1 (by decide) (hts _ wm_4_10) rfl dX9_emit_13 ?_
  refine lv_aload_n hx hb dX9_emit_16 rfl (lv_at hl 0 rfl) ?_
  refine g_getI hx hb hts inlX9 hown hK hP 15 ct_15 rfl 4 (by decide) (hts _ wm_26_2) rfl dX9_emit_17 ?_
  refine lv_iload_n hx hb dX9_emit_20 rfl (lv_at hl 1 rfl) ?_
  obtain ⟨g1, hf⟩ := gd hf
  refine g_iast hx hb hK had hP hS 17 ct_17 g1 dX9_emit_21 (fun H locs hP hS => ?_)
  exact wX9_emit_s22 C n (setI st 17 (st.1 15 4).toNatClampNeg v1) res hf H locs ls (lv_sub hl [0] rfl) hP hS
def fX9_emit_s0 (n : Nat)   (v1 : Int32) (st : St) : Option (Unit × St) := if 120 ≤ (st.1 15 4) then fX9_emit_s32 n st else fX9_emit_s12 n v1 st
set_option maxHeartbeats 4000000 in
set_option maxRecDepth 100000 in
theorem wX9_emit_s0 (C : Cx p s m args meth c cX9_emit 2 wsL_law RX9 none D G ad) (n : Nat)   (v1 : Int32)   (st : St) (res : (Unit × St))  (hf : fX9_emit_s0 n   v1 st = some res) : At p l e (rmK 0) s m args below meth c D G ad (MQV D G ad below args s res) 2 st [(0, .ref (ad 15)), (1, .int v1)] 0 [] := by
  obtain ⟨hx, hb, hml, hown, hts, hr, hlk, hK, had⟩ := id C
  intro H locs ls hl hP hS
  unfold fX9_emit_s0 at hf
  refine lv_aload_n hx hb dX9_emit_0 rfl (lv_at hl 0 rfl) ?_
  refine g_getI hx hb hts inlX9 hown hK hP 15 ct_15 rfl 4 (by decide) (hts _ wm_26_2) rfl dX9_emit_1 ?_
  refine lv_aload_n hx hb dX9_emit_4 rfl (lv_at hl 0 rfl) ?_
  refine g_getR hx hb hts inlX9 hown hK hP 15 ct_15 rfl 1 (by decide) (hts _ wm_4_10) rfl dX9_emit_5 ?_
  refine g_alen hx hb hK hP 17 ct_17 dX9_emit_8 ?_
  refine lv_topc (v := 120) (by decide) ?_
  refine lv_icmp_ge (tgt := 32) hx hb dX9_emit_9 (by decide) (fun q => ?_) (fun q => ?_)
  · exact wX9_emit_s32 C n st res (it hf q) H locs ls (lv_sub hl [] rfl) hP hS
  · exact wX9_emit_s12 C n v1 st res (ie hf q) H locs ls (lv_sub hl [0, 1] rfl) hP hS
def fX9_emit (n : Nat)  (a1 : Int32) (st : St) : Option (Unit × St) := fX9_emit_s0 n a1 st
theorem okX9_emit : okY yX9_emit RX9 1 := by unfold okY; decide +kernel
end
set_option maxRecDepth 100000 in
theorem kX9_emit (l : Launch) (D : va_G) (G : G3) (ad : Nat → Nat) (had : Adr ad) (n : Nat)   (a1 : Int32) (st : St) (res : (Unit × St)) (hf : fX9_emit n  a1 st = some res) {sz : Nat} : CtV l yX9_emit (wsU yX9_emit cX9_emit 2 none) (rmK 0) D G ad sz [.ref (ad 15), .int a1] st res := by
  refine Met.ofW (cc := cX9_emit) (maxL := 2) (ret := none) (by decide) rfl ?_
  intro p e s m args below meth c s₁ B hml hv
  obtain ⟨rfl, hsz, hP, hK⟩ := hv
  have hts := atoms_spec (ws := wsU yX9_emit cX9_emit 2 none) B.pre
  have C : Cx p s m _ meth c cX9_emit 2 wsL_law RX9 none D G ad := ⟨B.exec, B.bytes, hml, findClass_of_methodNamed B.named, fun w h => hts w (List.mem_cons_of_mem _ h), B.returns, B.notSynchronized, hK, had⟩
  subst hsz
  have hl := lv_entry ([.ref (ad 15), .int a1]) (n := 2) (Nat.le_of_ble_eq_true rfl)
  rw [lg_entry_eq]
  generalize (lg_sl ([.ref (ad 15), .int a1]) ++ List.replicate (2 - (lg_sl ([.ref (ad 15), .int a1])).length) Slot.unset).toArray = ls at hl ⊢
  exact wX9_emit_s0 C n  a1   st res hf s.heap [] ls (lv_sub hl [0, 1] rfl) hP va_S.rf
section
variable {p : Program} {l : Launch} {e : Env} {s : State} {m : MethodId} {args : Array Value} {below : List Frame} {meth : Method} {c : Code} {D : va_G} {G : G3} {ad : Nat → Nat}
def fX9_openOne_s20 (n : Nat)   (k0 : Int32) (st : St) : Option (Int32 × St) := if zb k0 = true then (some (k0, st)) else none
set_option maxHeartbeats 4000000 in
set_option maxRecDepth 100000 in
theorem wX9_openOne_s20 (C : Cx p s m args meth c cX9_openOne 2 wsL_law RX9 (some .boolean) D G ad) (n : Nat)   (k0 : Int32)   (st : St) (res : (Int32 × St))  (hf : fX9_openOne_s20 n   k0 st = some res) : At p l e (rmK 2) s m args below meth c D G ad (MQI D G ad below args s res) 2 st [] 20 [.int k0] := by
  obtain ⟨hx, hb, hml, hown, hts, hr, hlk, hK, had⟩ := id C
  intro H locs ls hl hP hS
  unfold fX9_openOne_s20 at hf
  obtain ⟨gz, hf⟩ := gd hf
  exact g_zret hx hb hr hlk hP hS (zb_of gz) dX9_openOne_20 hf
def fX9_openOne_s19 (n : Nat)    (st : St) : Option (Int32 × St) := fX9_openOne_s20 n 0 st
set_option maxHeartbeats 4000000 in
set_option maxRecDepth 100000 in
theorem wX9_openOne_s19 (C : Cx p s m args meth c cX9_openOne 2 wsL_law RX9 (some .boolean) D G ad) (n : Nat)      (st : St) (res : (Int32 × St))  (hf : fX9_openOne_s19 n    st = some res) : At p l e (rmK 2) s m args below meth c D G ad (MQI D G ad below args s res) 2 st [] 19 [] := by
  obtain ⟨hx, hb, hml, hown, hts, hr, hlk, hK, had⟩ := id C
  intro H locs ls hl hP hS
  unfold fX9_openOne_s19 at hf
  refine lv_iconst (v := 0) hx hb dX9_openOne_19 (by decide) ?_
  exact wX9_openOne_s20 C n 0 st res hf H locs ls (lv_sub hl [] rfl) hP hS
def fX9_openOne_s15 (n : Nat)    (st : St) : Option (Int32 × St) := fX9_openOne_s20 n 1 st
set_option maxHeartbeats 4000000 in
set_option maxRecDepth 100000 in
theorem wX9_openOne_s15 (C : Cx p s m args meth c cX9_openOne 2 wsL_law RX9 (some .boolean) D G ad) (n : Nat)      (st : St) (res : (Int32 × St))  (hf : fX9_openOne_s15 n    st = some res) : At p l e (rmK 2) s m args below meth c D G ad (MQI D G ad below args s res) 2 st [] 15 [] := by
  obtain ⟨hx, hb, hml, hown, hts, hr, hlk, hK, had⟩ := id C
  intro H locs ls hl hP hS
  unfold fX9_openOne_s15 at hf
  refine lv_iconst (v := 1) hx hb dX9_openOne_15 (by decide) ?_
  refine lv_goto (tgt := 20) hx hb dX9_openOne_16 (by decide) ?_
  exact wX9_openOne_s20 C n 1 st res hf H locs ls (lv_sub hl [] rfl) hP hS
def fX9_openOne_s12 (n : Nat)   (k0 : Int32) (st : St) : Option (Int32 × St) := if k0 = 0 then fX9_openOne_s19 n st else fX9_openOne_s15 n st
set_option maxHeartbeats 4000000 in
set_option maxRecDepth 100000 in
theorem wX9_openOne_s12 (C : Cx p s m args meth c cX9_openOne 2 wsL_law RX9 (some .boolean) D G ad) (n : Nat)   (k0 : Int32)   (st : St) (res : (Int32 × St))  (hf : fX9_openOne_s12 n   k0 st = some res) : At p l e (rmK 2) s m args below meth c D G ad (MQI D G ad below args s res) 2 st [] 12 [.int k0] := by
  obtain ⟨hx, hb, hml, hown, hts, hr, hlk, hK, had⟩ := id C
  intro H locs ls hl hP hS
  unfold fX9_openOne_s12 at hf
  refine lv_if_eq (tgt := 19) hx hb dX9_openOne_12 (by decide) (fun q => ?_) (fun q => ?_)
  · exact wX9_openOne_s19 C n st res (it hf q) H locs ls (lv_sub hl [] rfl) hP hS
  · exact wX9_openOne_s15 C n st res (ie hf q) H locs ls (lv_sub hl [] rfl) hP hS
def fX9_openOne_s6 (n : Nat)    (st : St) : Option (Int32 × St) := (fX9_take n 40 st).bind (fun q => fX9_openOne_s12 n q.1 q.2)
set_option maxHeartbeats 4000000 in
set_option maxRecDepth 100000 in
theorem wX9_openOne_s6 (C : Cx p s m args meth c cX9_openOne 2 wsL_law RX9 (some .boolean) D G ad) (n : Nat)      (st : St) (res : (Int32 × St))  (hf : fX9_openOne_s6 n    st = some res) : At p l e (rmK 2) s m args below meth c D G ad (MQI D G ad below args s res) 2 st [(0, .ref (ad 15))] 6 [] := by
  obtain ⟨hx, hb, hml, hown, hts, hr, hlk, hK, had⟩ := id C
  intro H locs ls hl hP hS
  unfold fX9_openOne_s6 at hf
  refine lv_aload_n hx hb dX9_openOne_6 rfl (lv_at hl 0 rfl) ?_
  refine lv_bipush (v := 40) hx hb dX9_openOne_7 (by decide) ?_
  obtain ⟨q, hq, hf⟩ := bd hf
  refine gcV_i (k := 1) (o := 15) (As := [.int 40]) (rest := []) hx hb hml hown hts hK hP hS hl.1 (goodV wm_27_7 wm_27_8 wm_27_9 wm_1_23 wm_27_10) okX9_take ct_15 rfl rfl (Nat.le_of_ble_eq_true rfl) (Nat.le_of_ble_eq_true rfl) rfl rfl (Nat.le_of_ble_eq_true rfl) dX9_openOne_9 (kX9_take l D G ad had n  40 st q hq) (fun H locs hP hS => ?_)
  exact wX9_openOne_s12 C n q.1 q.2 res hf H locs ls (lv_sub hl [] rfl) hP hS
def fX9_openOne_s0 (n : Nat)   (v1 : Int32) (st : St) : Option (Int32 × St) := if 6 ≤ v1 then fX9_openOne_s19 n st else fX9_openOne_s6 n st
set_option maxHeartbeats 4000000 in
set_option maxRecDepth 100000 in
theorem wX9_openOne_s0 (C : Cx p s m args meth c cX9_openOne 2 wsL_law RX9 (some .boolean) D G ad) (n : Nat)   (v1 : Int32)   (st : St) (res : (Int32 × St))  (hf : fX9_openOne_s0 n   v1 st = some res) : At p l e (rmK 2) s m args below meth c D G ad (MQI D G ad below args s res) 2 st [(0, .ref (ad 15)), (1, .int v1)] 0 [] := by
  obtain ⟨hx, hb, hml, hown, hts, hr, hlk, hK, had⟩ := id C
  intro H locs ls hl hP hS
  unfold fX9_openOne_s0 at hf
  refine lv_iload_n hx hb dX9_openOne_0 rfl (lv_at hl 1 rfl) ?_
  refine lv_bipush (v := 6) hx hb dX9_openOne_1 (by decide) ?_
  refine lv_icmp_ge (tgt := 19) hx hb dX9_openOne_3 (by decide) (fun q => ?_) (fun q => ?_)
  · exact wX9_openOne_s19 C n st res (it hf q) H locs ls (lv_sub hl [] rfl) hP hS
  · exact wX9_openOne_s6 C n st res (ie hf q) H locs ls (lv_sub hl [0] rfl) hP hS
def fX9_openOne (n : Nat)  (a1 : Int32) (st : St) : Option (Int32 × St) := fX9_openOne_s0 n a1 st
theorem okX9_openOne : okY yX9_openOne RX9 1 := by unfold okY; decide +kernel
end
set_option maxRecDepth 100000 in
theorem kX9_openOne (l : Launch) (D : va_G) (G : G3) (ad : Nat → Nat) (had : Adr ad) (n : Nat)   (a1 : Int32) (st : St) (res : (Int32 × St)) (hf : fX9_openOne n  a1 st = some res) {sz : Nat} : CtI l yX9_openOne (wsU yX9_openOne cX9_openOne 2 (some .boolean)) (rmK 2) D G ad sz [.ref (ad 15), .int a1] st res := by
  refine Met.ofW (cc := cX9_openOne) (maxL := 2) (ret := (some .boolean)) (by decide) rfl ?_
  intro p e s m args below meth c s₁ B hml hv
  obtain ⟨rfl, hsz, hP, hK⟩ := hv
  have hts := atoms_spec (ws := wsU yX9_openOne cX9_openOne 2 (some .boolean)) B.pre
  have C : Cx p s m _ meth c cX9_openOne 2 wsL_law RX9 (some .boolean) D G ad := ⟨B.exec, B.bytes, hml, findClass_of_methodNamed B.named, fun w h => hts w (List.mem_cons_of_mem _ h), B.returns, B.notSynchronized, hK, had⟩
  subst hsz
  have hl := lv_entry ([.ref (ad 15), .int a1]) (n := 2) (Nat.le_of_ble_eq_true rfl)
  rw [lg_entry_eq]
  generalize (lg_sl ([.ref (ad 15), .int a1]) ++ List.replicate (2 - (lg_sl ([.ref (ad 15), .int a1])).length) Slot.unset).toArray = ls at hl ⊢
  exact wX9_openOne_s0 C n  a1   st res hf s.heap [] ls (lv_sub hl [0, 1] rfl) hP va_S.rf
section
variable {p : Program} {l : Launch} {e : Env} {s : State} {m : MethodId} {args : Array Value} {below : List Frame} {meth : Method} {c : Code} {D : va_G} {G : G3} {ad : Nat → Nat}
def fX9_isDigit_s44 (n : Nat)   (k0 : Int32) (st : St) : Option (Int32 × St) := if zb k0 = true then (some (k0, st)) else none
set_option maxHeartbeats 4000000 in
set_option maxRecDepth 100000 in
theorem wX9_isDigit_s44 (C : Cx p s m args meth c cX9_isDigit 1 wsL_law RX9 (some .boolean) D G ad) (n : Nat)   (k0 : Int32)   (st : St) (res : (Int32 × St))  (hf : fX9_isDigit_s44 n   k0 st = some res) : At p l e (rmK 0) s m args below meth c D G ad (MQI D G ad below args s res) 1 st [] 44 [.int k0] := by
  obtain ⟨hx, hb, hml, hown, hts, hr, hlk, hK, had⟩ := id C
  intro H locs ls hl hP hS
  unfold fX9_isDigit_s44 at hf
  obtain ⟨gz, hf⟩ := gd hf
  exact g_zret hx hb hr hlk hP hS (zb_of gz) dX9_isDigit_44 hf
def fX9_isDigit_s43 (n : Nat)    (st : St) : Option (Int32 × St) := fX9_isDigit_s44 n 0 st
set_option maxHeartbeats 4000000 in
set_option maxRecDepth 100000 in
theorem wX9_isDigit_s43 (C : Cx p s m args meth c cX9_isDigit 1 wsL_law RX9 (some .boolean) D G ad) (n : Nat)      (st : St) (res : (Int32 × St))  (hf : fX9_isDigit_s43 n    st = some res) : At p l e (rmK 0) s m args below meth c D G ad (MQI D G ad below args s res) 1 st [] 43 [] := by
  obtain ⟨hx, hb, hml, hown, hts, hr, hlk, hK, had⟩ := id C
  intro H locs ls hl hP hS
  unfold fX9_isDigit_s43 at hf
  refine lv_iconst (v := 0) hx hb dX9_isDigit_43 (by decide) ?_
  exact wX9_isDigit_s44 C n 0 st res hf H locs ls (lv_sub hl [] rfl) hP hS
def fX9_isDigit_s39 (n : Nat)    (st : St) : Option (Int32 × St) := fX9_isDigit_s44 n 1 st
set_option maxHeartbeats 4000000 in
set_option maxRecDepth 100000 in
theorem wX9_isDigit_s39 (C : Cx p s m args meth c cX9_isDigit 1 wsL_law RX9 (some .boolean) D G ad) (n : Nat)      (st : St) (res : (Int32 × St))  (hf : fX9_isDigit_s39 n    st = some res) : At p l e (rmK 0) s m args below meth c D G ad (MQI D G ad below args s res) 1 st [] 39 [] := by
  obtain ⟨hx, hb, hml, hown, hts, hr, hlk, hK, had⟩ := id C
  intro H locs ls hl hP hS
  unfold fX9_isDigit_s39 at hf
  refine lv_iconst (v := 1) hx hb dX9_isDigit_39 (by decide) ?_
  refine lv_goto (tgt := 44) hx hb dX9_isDigit_40 (by decide) ?_
  exact wX9_isDigit_s44 C n 1 st res hf H locs ls (lv_sub hl [] rfl) hP hS
def fX9_isDigit_s25 (n : Nat)    (st : St) : Option (Int32 × St) := if inb (st.1 15 3) 120 = true then (if 57 < (st.1 16 (st.1 15 3).toNatClampNeg) then fX9_isDigit_s43 n st else fX9_isDigit_s39 n st) else none
set_option maxHeartbeats 4000000 in
set_option maxRecDepth 100000 in
theorem wX9_isDigit_s25 (C : Cx p s m args meth c cX9_isDigit 1 wsL_law RX9 (some .boolean) D G ad) (n : Nat)      (st : St) (res : (Int32 × St))  (hf : fX9_isDigit_s25 n    st = some res) : At p l e (rmK 0) s m args below meth c D G ad (MQI D G ad below args s res) 1 st [(0, .ref (ad 15))] 25 [] := by
  obtain ⟨hx, hb, hml, hown, hts, hr, hlk, hK, had⟩ := id C
  intro H locs ls hl hP hS
  unfold fX9_isDigit_s25 at hf
  refine lv_aload_n hx hb dX9_isDigit_25 rfl (lv_at hl 0 rfl) ?_
  refine g_getR hx hb hts inlX9 hown hK hP 15 ct_15 rfl 0 (by decide) (hts _ wm_4_9) rfl dX9_isDigit_26 ?_
  refine lv_aload_n hx hb dX9_isDigit_29 rfl (lv_at hl 0 rfl) ?_
  refine g_getI hx hb hts inlX9 hown hK hP 15 ct_15 rfl 3 (by decide) (hts _ wm_26_1) rfl dX9_isDigit_30 ?_
  obtain ⟨g1, hf⟩ := gd hf
  refine g_iald hx hb hK hP 16 ct_16 g1 dX9_isDigit_33 ?_
  refine lv_bipush (v := 57) hx hb dX9_isDigit_34 (by decide) ?_
  refine lv_icmp_gt (tgt := 43) hx hb dX9_isDigit_36 (by decide) (fun q => ?_) (fun q => ?_)
  · exact wX9_isDigit_s43 C n st res (it hf q) H locs ls (lv_sub hl [] rfl) hP hS
  · exact wX9_isDigit_s39 C n st res (ie hf q) H locs ls (lv_sub hl [] rfl) hP hS
def fX9_isDigit_s11 (n : Nat)    (st : St) : Option (Int32 × St) := if inb (st.1 15 3) 120 = true then (if (st.1 16 (st.1 15 3).toNatClampNeg) < 48 then fX9_isDigit_s43 n st else fX9_isDigit_s25 n st) else none
set_option maxHeartbeats 4000000 in
set_option maxRecDepth 100000 in
theorem wX9_isDigit_s11 (C : Cx p s m args meth c cX9_isDigit 1 wsL_law RX9 (some .boolean) D G ad) (n : Nat)      (st : St) (res : (Int32 × St))  (hf : fX9_isDigit_s11 n    st = some res) : At p l e (rmK 0) s m args below meth c D G ad (MQI D G ad below args s res) 1 st [(0, .ref (ad 15))] 11 [] := by
  obtain ⟨hx, hb, hml, hown, hts, hr, hlk, hK, had⟩ := id C
  intro H locs ls hl hP hS
  unfold fX9_isDigit_s11 at hf
  refine lv_aload_n hx hb dX9_isDigit_11 rfl (lv_at hl 0 rfl) ?_
  refine g_getR hx hb hts inlX9 hown hK hP 15 ct_15 rfl 0 (by decide) (hts _ wm_4_9) rfl dX9_isDigit_12 ?_
  refine lv_aload_n hx hb dX9_isDigit_15 rfl (lv_at hl 0 rfl) ?_
  refine g_getI hx hb hts inlX9 hown hK hP 15 ct_15 rfl 3 (by decide) (hts _ wm_26_1) rfl dX9_isDigit_16 ?_
  obtain ⟨g1, hf⟩ := gd hf
  refine g_iald hx hb hK hP 16 ct_16 g1 dX9_isDigit_19 ?_
  refine lv_bipush (v := 48) hx hb dX9_isDigit_20 (by decide) ?_
  refine lv_icmp_lt (tgt := 43) hx hb dX9_isDigit_22 (by decide) (fun q => ?_) (fun q => ?_)
  · exact wX9_isDigit_s43 C n st res (it hf q) H locs ls (lv_sub hl [] rfl) hP hS
  · exact wX9_isDigit_s25 C n st res (ie hf q) H locs ls (lv_sub hl [0] rfl) hP hS
def fX9_isDigit_s0 (n : Nat)    (st : St) : Option (Int32 × St) := if (st.1 15 2) ≤ (st.1 15 3) then fX9_isDigit_s43 n st else fX9_isDigit_s11 n st
set_option maxHeartbeats 4000000 in
set_option maxRecDepth 100000 in
theorem wX9_isDigit_s0 (C : Cx p s m args meth c cX9_isDigit 1 wsL_law RX9 (some .boolean) D G ad) (n : Nat)      (st : St) (res : (Int32 × St))  (hf : fX9_isDigit_s0 n    st = some res) : At p l e (rmK 0) s m args below meth c D G ad (MQI D G ad below args s res) 1 st [(0, .ref (ad 15))] 0 [] := by
  obtain ⟨hx, hb, hml, hown, hts, hr, hlk, hK, had⟩ := id C
  intro H locs ls hl hP hS
  unfold fX9_isDigit_s0 at hf
  refine lv_aload_n hx hb dX9_isDigit_0 rfl (lv_at hl 0 rfl) ?_
  refine g_getI hx hb hts inlX9 hown hK hP 15 ct_15 rfl 3 (by decide) (hts _ wm_26_1) rfl dX9_isDigit_1 ?_
  refine lv_aload_n hx hb dX9_isDigit_4 rfl (lv_at hl 0 rfl) ?_
  refine g_getI hx hb hts inlX9 hown hK hP 15 ct_15 rfl 2 (by decide) (hts _ wm_25_5) rfl dX9_isDigit_5 ?_
  refine lv_icmp_ge (tgt := 43) hx hb dX9_isDigit_8 (by decide) (fun q => ?_) (fun q => ?_)
  · exact wX9_isDigit_s43 C n st res (it hf q) H locs ls (lv_sub hl [] rfl) hP hS
  · exact wX9_isDigit_s11 C n st res (ie hf q) H locs ls (lv_sub hl [0] rfl) hP hS
def fX9_isDigit (n : Nat)   (st : St) : Option (Int32 × St) := fX9_isDigit_s0 n st
theorem okX9_isDigit : okY yX9_isDigit RX9 0 := by unfold okY; decide +kernel
end
set_option maxRecDepth 100000 in
theorem kX9_isDigit (l : Launch) (D : va_G) (G : G3) (ad : Nat → Nat) (had : Adr ad) (n : Nat)    (st : St) (res : (Int32 × St)) (hf : fX9_isDigit n   st = some res) {sz : Nat} : CtI l yX9_isDigit (wsU yX9_isDigit cX9_isDigit 1 (some .boolean)) (rmK 0) D G ad sz [.ref (ad 15)] st res := by
  refine Met.ofW (cc := cX9_isDigit) (maxL := 1) (ret := (some .boolean)) (by decide) rfl ?_
  intro p e s m args below meth c s₁ B hml hv
  obtain ⟨rfl, hsz, hP, hK⟩ := hv
  have hts := atoms_spec (ws := wsU yX9_isDigit cX9_isDigit 1 (some .boolean)) B.pre
  have C : Cx p s m _ meth c cX9_isDigit 1 wsL_law RX9 (some .boolean) D G ad := ⟨B.exec, B.bytes, hml, findClass_of_methodNamed B.named, fun w h => hts w (List.mem_cons_of_mem _ h), B.returns, B.notSynchronized, hK, had⟩
  subst hsz
  have hl := lv_entry ([.ref (ad 15)]) (n := 1) (Nat.le_of_ble_eq_true rfl)
  rw [lg_entry_eq]
  generalize (lg_sl ([.ref (ad 15)]) ++ List.replicate (1 - (lg_sl ([.ref (ad 15)])).length) Slot.unset).toArray = ls at hl ⊢
  exact wX9_isDigit_s0 C n     st res hf s.heap [] ls (lv_sub hl [0] rfl) hP va_S.rf
section
variable {p : Program} {l : Launch} {e : Env} {s : State} {m : MethodId} {args : Array Value} {below : List Frame} {meth : Method} {c : Code} {D : va_G} {G : G3} {ad : Nat → Nat}
def fX9_readNumber_s55 (n : Nat)    (st : St) : Option (Unit × St) := some ((), st)
set_option maxHeartbeats 4000000 in
set_option maxRecDepth 100000 in
theorem wX9_readNumber_s55 (C : Cx p s m args meth c cX9_readNumber 3 wsL_law RX9 none D G ad) (n : Nat)      (st : St) (res : (Unit × St))  (hf : fX9_readNumber_s55 n    st = some res) : At p l e (rmK 1) s m args below meth c D G ad (MQV D G ad below args s res) 3 st [] 55 [] := by
  obtain ⟨hx, hb, hml, hown, hts, hr, hlk, hK, had⟩ := id C
  intro H locs ls hl hP hS
  unfold fX9_readNumber_s55 at hf
  exact g_vret hx hb hr hlk hP hS dX9_readNumber_55 hf
def fX9_readNumber_s50 (n : Nat)   (v1 : Int32) (st : St) : Option (Unit × St) := (fX9_emit n v1 st).bind (fun q => fX9_readNumber_s55 n q.2)
set_option maxHeartbeats 4000000 in
set_option maxRecDepth 100000 in
theorem wX9_readNumber_s50 (C : Cx p s m args meth c cX9_readNumber 3 wsL_law RX9 none D G ad) (n : Nat)   (v1 : Int32)   (st : St) (res : (Unit × St))  (hf : fX9_readNumber_s50 n   v1 st = some res) : At p l e (rmK 1) s m args below meth c D G ad (MQV D G ad below args s res) 3 st [(0, .ref (ad 15)), (1, .int v1)] 50 [] := by
  obtain ⟨hx, hb, hml, hown, hts, hr, hlk, hK, had⟩ := id C
  intro H locs ls hl hP hS
  unfold fX9_readNumber_s50 at hf
  refine lv_aload_n hx hb dX9_readNumber_50 rfl (lv_at hl 0 rfl) ?_
  refine lv_iload_n hx hb dX9_readNumber_51 rfl (lv_at hl 1 rfl) ?_
  obtain ⟨q, hq, hf⟩ := bd hf
  refine gcV_v (k := 0) (o := 15) (As := [.int v1]) (rest := []) hx hb hml hown hts hK hP hS hl.1 (goodV wm_26_14 wm_26_15 wm_26_16 wm_1_23 wm_26_17) okX9_emit ct_15 rfl rfl (Nat.le_of_ble_eq_true rfl) (Nat.le_of_ble_eq_true rfl) rfl rfl (Nat.le_of_ble_eq_true rfl) dX9_readNumber_52 (kX9_emit l D G ad had n  v1 st q hq) (fun H locs hP hS => ?_)
  exact wX9_readNumber_s55 C n q.2 res hf H locs ls (lv_sub hl [] rfl) hP hS
def fX9_readNumber_s44 (n : Nat) (K4 : Int32 → Int32 → St → Option (Unit × St))  (v1 : Int32) (v2 : Int32) (st : St) : Option (Unit × St) := K4 v1 (v2 + 1) st
set_option maxHeartbeats 4000000 in
set_option maxRecDepth 100000 in
theorem wX9_readNumber_s44 (C : Cx p s m args meth c cX9_readNumber 3 wsL_law RX9 none D G ad) (n : Nat) (K4 : Int32 → Int32 → St → Option (Unit × St))  (v1 : Int32) (v2 : Int32)   (st : St) (res : (Unit × St)) (hK4 : ∀ (v1 : Int32) (v2 : Int32) (st : St), K4 v1 v2 st = some res → At p l e (rmK 1) s m args below meth c D G ad (MQV D G ad below args s res) 3 st [(0, .ref (ad 15)), (1, .int v1), (2, .int v2)] 4 []) (hf : fX9_readNumber_s44 n K4  v1 v2 st = some res) : At p l e (rmK 1) s m args below meth c D G ad (MQV D G ad below args s res) 3 st [(0, .ref (ad 15)), (1, .int v1), (2, .int v2)] 44 [] := by
  obtain ⟨hx, hb, hml, hown, hts, hr, hlk, hK, had⟩ := id C
  intro H locs ls hl hP hS
  unfold fX9_readNumber_s44 at hf
  refine lv_iinc (v := v2 + 1) (lv' := [(2, .int (v2 + 1)), (0, .ref (ad 15)), (1, .int v1)]) hx hb dX9_readNumber_44 hl (k := 2) rfl rfl (by decide) rfl (fun ls hl => ?_)
  refine lv_goto (tgt := 4) hx hb dX9_readNumber_47 (by decide) ?_
  exact hK4 v1 (v2 + 1)  st hf H locs ls (lv_sub hl [1, 2, 0] rfl) hP hS
def fX9_readNumber_s16 (n : Nat) (K4 : Int32 → Int32 → St → Option (Unit × St))  (v1 : Int32) (v2 : Int32) (st : St) : Option (Unit × St) := if inb (st.1 15 3) 120 = true then (fX9_readNumber_s44 n K4 (((v1 * 10) + (st.1 16 (st.1 15 3).toNatClampNeg)) - 48) v2 (setI st 15 3 ((st.1 15 3) + 1))) else none
set_option maxHeartbeats 4000000 in
set_option maxRecDepth 100000 in
theorem wX9_readNumber_s16 (C : Cx p s m args meth c cX9_readNumber 3 wsL_law RX9 none D G ad) (n : Nat) (K4 : Int32 → Int32 → St → Option (Unit × St))  (v1 : Int32) (v2 : Int32)   (st : St) (res : (Unit × St)) (hK4 : ∀ (v1 : Int32) (v2 : Int32) (st : St), K4 v1 v2 st = some res → At p l e (rmK 1) s m args below meth c D G ad (MQV D G ad below args s res) 3 st [(0, .ref (ad 15)), (1, .int v1), (2, .int v2)] 4 []) (hf : fX9_readNumber_s16 n K4  v1 v2 st = some res) : At p l e (rmK 1) s m args below meth c D G ad (MQV D G ad below args s res) 3 st [(0, .ref (ad 15)), (1, .int v1), (2, .int v2)] 16 [] := by
  obtain ⟨hx, hb, hml, hown, hts, hr, hlk, hK, had⟩ := id C
  intro H locs ls hl hP hS
  unfold fX9_readNumber_s16 at hf
  refine lv_iload_n hx hb dX9_readNumber_16 rfl (lv_at hl 1 rfl) ?_
  refine lv_bipush (v := 10) hx hb dX9_readNumber_17 (by decide) ?_
  refine lv_imul hx hb dX9_readNumber_19 ?_
  refine lv_aload_n hx hb dX9_readNumber_20 rfl (lv_at hl 0 rfl) ?_
  refine g_getR hx hb hts inlX9 hown hK hP 15 ct_15 rfl 0 (by decide) (hts _ wm_4_9) rfl dX9_readNumber_21 ?_
  refine lv_aload_n hx hb dX9_readNumber_24 rfl (lv_at hl 0 rfl) ?_
  refine g_getI hx hb hts inlX9 hown hK hP 15 ct_15 rfl 3 (by decide) (hts _ wm_26_1) rfl dX9_readNumber_25 ?_
  obtain ⟨g1, hf⟩ := gd hf
  refine g_iald hx hb hK hP 16 ct_16 g1 dX9_readNumber_28 ?_
  refine lv_iadd hx hb dX9_readNumber_29 ?_
  refine lv_bipush (v := 48) hx hb dX9_readNumber_30 (by decide) ?_
  refine lv_isub hx hb dX9_readNumber_32 ?_
  refine lv_istore_n (lv' := [(1, .int (((v1 * 10) + (st.1 16 (st.1 15 3).toNatClampNeg)) - 48)), (0, .ref (ad 15)), (2, .int v2)]) hx hb dX9_readNumber_33 rfl hl (by decide) rfl (fun ls hl => ?_)
  refine lv_aload_n hx hb dX9_readNumber_34 rfl (lv_at hl 1 rfl) ?_
  refine lv_dup hx hb dX9_readNumber_35 rfl ?_
  refine g_getI hx hb hts inlX9 hown hK hP 15 ct_15 rfl 3 (by decide) (hts _ wm_26_1) rfl dX9_readNumber_36 ?_
  refine lv_iconst (v := 1) hx hb dX9_readNumber_39 (by decide) ?_
  refine lv_iadd hx hb dX9_readNumber_40 ?_
  refine g_putI hx hb hts inlX9 tyX9_ok nmX9 hown hK had hP hS 15 ct_15 rfl 3 (by decide) (hts _ wm_26_1) rfl rfl rfl rfl rfl dX9_readNumber_41 (fun H locs hP hS => ?_)
  exact wX9_readNumber_s44 C n K4 (((v1 * 10) + (st.1 16 (st.1 15 3).toNatClampNeg)) - 48) v2 (setI st 15 3 ((st.1 15 3) + 1)) res hK4 hf H locs ls (lv_sub hl [1, 0, 2] rfl) hP hS
def fX9_readNumber_s13 (n : Nat) (K4 : Int32 → Int32 → St → Option (Unit × St))  (v1 : Int32) (v2 : Int32) (k0 : Int32) (st : St) : Option (Unit × St) := if k0 = 0 then fX9_readNumber_s50 n v1 st else fX9_readNumber_s16 n K4 v1 v2 st
set_option maxHeartbeats 4000000 in
set_option maxRecDepth 100000 in
theorem wX9_readNumber_s13 (C : Cx p s m args meth c cX9_readNumber 3 wsL_law RX9 none D G ad) (n : Nat) (K4 : Int32 → Int32 → St → Option (Unit × St))  (v1 : Int32) (v2 : Int32) (k0 : Int32)   (st : St) (res : (Unit × St)) (hK4 : ∀ (v1 : Int32) (v2 : Int32) (st : St), K4 v1 v2 st = some res → At p l e (rmK 1) s m args below meth c D G ad (MQV D G ad below args s res) 3 st [(0, .ref (ad 15)), (1, .int v1), (2, .int v2)] 4 []) (hf : fX9_readNumber_s13 n K4  v1 v2 k0 st = some res) : At p l e (rmK 1) s m args below meth c D G ad (MQV D G ad below args s res) 3 st [(0, .ref (ad 15)), (1, .int v1), (2, .int v2)] 13 [.int k0] := by
  obtain ⟨hx, hb, hml, hown, hts, hr, hlk, hK, had⟩ := id C
  intro H locs ls hl hP hS
  unfold fX9_readNumber_s13 at hf
  refine lv_if_eq (tgt := 50) hx hb dX9_readNumber_13 (by decide) (fun q => ?_) (fun q => ?_)
  · exact wX9_readNumber_s50 C n v1 st res (it hf q) H locs ls (lv_sub hl [0, 1] rfl) hP hS
  · exact wX9_readNumber_s16 C n K4 v1 v2 st res hK4 (ie hf q) H locs ls (lv_sub hl [0, 1, 2] rfl) hP hS
def fX9_readNumber_s9 (n : Nat) (K4 : Int32 → Int32 → St → Option (Unit × St))  (v1 : Int32) (v2 : Int32) (st : St) : Option (Unit × St) := (fX9_isDigit n st).bind (fun q => fX9_readNumber_s13 n K4 v1 v2 q.1 q.2)
set_option maxHeartbeats 4000000 in
set_option maxRecDepth 100000 in
theorem wX9_readNumber_s9 (C : Cx p s m args meth c cX9_readNumber 3 wsL_law RX9 none D G ad) (n : Nat) (K4 : Int32 → Int32 → St → Option (Unit × St))  (v1 : Int32) (v2 : Int32)   (st : St) (res : (Unit × St)) (hK4 : ∀ (v1 : Int32) (v2 : Int32) (st : St), K4 v1 v2 st = some res → At p l e (rmK 1) s m args below meth c D G ad (MQV D G ad below args s res) 3 st [(0, .ref (ad 15)), (1, .int v1), (2, .int v2)] 4 []) (hf : fX9_readNumber_s9 n K4  v1 v2 st = some res) : At p l e (rmK 1) s m args below meth c D G ad (MQV D G ad below args s res) 3 st [(0, .ref (ad 15)), (1, .int v1), (2, .int v2)] 9 [] := by
  obtain ⟨hx, hb, hml, hown, hts, hr, hlk, hK, had⟩ := id C
  intro H locs ls hl hP hS
  unfold fX9_readNumber_s9 at hf
  refine lv_aload_n hx hb dX9_readNumber_9 rfl (lv_at hl 0 rfl) ?_
  obtain ⟨q, hq, hf⟩ := bd hf
  refine gcV_i (k := 0) (o := 15) (As := []) (rest := []) hx hb hml hown hts hK hP hS hl.1 (goodV wm_26_19 wm_26_20 wm_26_21 wm_1_23 wm_26_22) okX9_isDigit ct_15 rfl rfl (Nat.le_of_ble_eq_true rfl) (Nat.le_of_ble_eq_true rfl) rfl rfl (Nat.le_of_ble_eq_true rfl) dX9_readNumber_10 (kX9_isDigit l D G ad had n   st q hq) (fun H locs hP hS => ?_)
  exact wX9_readNumber_s13 C n K4 v1 v2 q.1 q.2 res hK4 hf H locs ls (lv_sub hl [0, 1, 2] rfl) hP hS
def fX9_readNumber_s4 (n : Nat) (K4 : Int32 → Int32 → St → Option (Unit × St))  (v1 : Int32) (v2 : Int32) (st : St) : Option (Unit × St) := if 4 ≤ v2 then fX9_readNumber_s50 n v1 st else fX9_readNumber_s9 n K4 v1 v2 st
set_option maxHeartbeats 4000000 in
set_option maxRecDepth 100000 in
theorem wX9_readNumber_s4 (C : Cx p s m args meth c cX9_readNumber 3 wsL_law RX9 none D G ad) (n : Nat) (K4 : Int32 → Int32 → St → Option (Unit × St))  (v1 : Int32) (v2 : Int32)   (st : St) (res : (Unit × St)) (hK4 : ∀ (v1 : Int32) (v2 : Int32) (st : St), K4 v1 v2 st = some res → At p l e (rmK 1) s m args below meth c D G ad (MQV D G ad below args s res) 3 st [(0, .ref (ad 15)), (1, .int v1), (2, .int v2)] 4 []) (hf : fX9_readNumber_s4 n K4  v1 v2 st = some res) : At p l e (rmK 1) s m args below meth c D G ad (MQV D G ad below args s res) 3 st [(0, .ref (ad 15)), (1, .int v1), (2, .int v2)] 4 [] := by
  obtain ⟨hx, hb, hml, hown, hts, hr, hlk, hK, had⟩ := id C
  intro H locs ls hl hP hS
  unfold fX9_readNumber_s4 at hf
  refine lv_iload_n hx hb dX9_readNumber_4 rfl (lv_at hl 2 rfl) ?_
  refine lv_iconst (v := 4) hx hb dX9_readNumber_5 (by decide) ?_
  refine lv_icmp_ge (tgt := 50) hx hb dX9_readNumber_6 (by decide) (fun q => ?_) (fun q => ?_)
  · exact wX9_readNumber_s50 C n v1 st res (it hf q) H locs ls (lv_sub hl [0, 1] rfl) hP hS
  · exact wX9_readNumber_s9 C n K4 v1 v2 st res hK4 (ie hf q) H locs ls (lv_sub hl [0, 1, 2] rfl) hP hS
def fX9_readNumber_L4 (n : Nat)   : Nat → Int32 → Int32 → St → Option (Unit × St)
  | 0, _, _, _ => none
  | k + 1, v1, v2, st => fX9_readNumber_s4 n (fX9_readNumber_L4 n k)  v1 v2 st
theorem wX9_readNumber_L4 (C : Cx p s m args meth c cX9_readNumber 3 wsL_law RX9 none D G ad) (n : Nat)    (res : (Unit × St))  : ∀ (k : Nat) (v1 : Int32) (v2 : Int32)  (st : St), fX9_readNumber_L4 n k v1 v2 st = some res → At p l e (rmK 1) s m args below meth c D G ad (MQV D G ad below args s res) 3 st [(0, .ref (ad 15)), (1, .int v1), (2, .int v2)] 4 [] := by
  intro k
  induction k with
  | zero => intro v1 v2  st h; exact absurd h (by intro q; cases q)
  | succ k ih => intro v1 v2  st h; exact wX9_readNumber_s4 C n (fX9_readNumber_L4 n k)  v1 v2   st res ih h
def fX9_readNumber_s0 (n : Nat)    (st : St) : Option (Unit × St) := fX9_readNumber_L4 n n 0 0 st
set_option maxHeartbeats 4000000 in
set_option maxRecDepth 100000 in
theorem wX9_readNumber_s0 (C : Cx p s m args meth c cX9_readNumber 3 wsL_law RX9 none D G ad) (n : Nat)      (st : St) (res : (Unit × St))  (hf : fX9_readNumber_s0 n    st = some res) : At p l e (rmK 1) s m args below meth c D G ad (MQV D G ad below args s res) 3 st [(0, .ref (ad 15))] 0 [] := by
  obtain ⟨hx, hb, hml, hown, hts, hr, hlk, hK, had⟩ := id C
  intro H locs ls hl hP hS
  unfold fX9_readNumber_s0 at hf
  refine lv_iconst (v := 0) hx hb dX9_readNumber_0 (by decide) ?_
  refine lv_istore_n (lv' := [(1, .int 0), (0, .ref (ad 15))]) hx hb dX9_readNumber_1 rfl hl (by decide) rfl (fun ls hl => ?_)
  refine lv_iconst (v := 0) hx hb dX9_readNumber_2 (by decide) ?_
  refine lv_istore_n (lv' := [(2, .int 0), (1, .int 0), (0, .ref (ad 15))]) hx hb dX9_readNumber_3 rfl hl (by decide) rfl (fun ls hl => ?_)
  exact wX9_readNumber_L4 C n res n 0 0 st hf H locs ls (lv_sub hl [2, 1, 0] rfl) hP hS
def fX9_readNumber (n : Nat)   (st : St) : Option (Unit × St) := fX9_readNumber_s0 n st
theorem okX9_readNumber : okY yX9_readNumber RX9 0 := by unfold okY; decide +kernel
end
set_option maxRecDepth 100000 in
theorem kX9_readNumber (l : Launch) (D : va_G) (G : G3) (ad : Nat → Nat) (had : Adr ad) (n : Nat)    (st : St) (res : (Unit × St)) (hf : fX9_readNumber n   st = some res) {sz : Nat} : CtV l yX9_readNumber (wsU yX9_readNumber cX9_readNumber 3 none) (rmK 1) D G ad sz [.ref (ad 15)] st res := by
  refine Met.ofW (cc := cX9_readNumber) (maxL := 3) (ret := none) (by decide) rfl ?_
  intro p e s m args below meth c s₁ B hml hv
  obtain ⟨rfl, hsz, hP, hK⟩ := hv
  have hts := atoms_spec (ws := wsU yX9_readNumber cX9_readNumber 3 none) B.pre
  have C : Cx p s m _ meth c cX9_readNumber 3 wsL_law RX9 none D G ad := ⟨B.exec, B.bytes, hml, findClass_of_methodNamed B.named, fun w h => hts w (List.mem_cons_of_mem _ h), B.returns, B.notSynchronized, hK, had⟩
  subst hsz
  have hl := lv_entry ([.ref (ad 15)]) (n := 3) (Nat.le_of_ble_eq_true rfl)
  rw [lg_entry_eq]
  generalize (lg_sl ([.ref (ad 15)]) ++ List.replicate (3 - (lg_sl ([.ref (ad 15)])).length) Slot.unset).toArray = ls at hl ⊢
  exact wX9_readNumber_s0 C n     st res hf s.heap [] ls (lv_sub hl [0] rfl) hP va_S.rf
