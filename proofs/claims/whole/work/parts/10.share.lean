theorem wm_2_3 : Cond.initialized RX8 ∈ wsL_law := in_r2 _ (mm_at 3 rfl)
theorem wm_4_14 : Cond.fieldLink RX8 9 "OrderEcho$Share" "claims" "[I" ∈ wsL_law := in_r4 _ (mm_at 14 rfl)
theorem wm_4_15 : Cond.fieldLink RX8 15 "OrderEcho$Share" "got" "[I" ∈ wsL_law := in_r4 _ (mm_at 15 rfl)
theorem wm_18_19 : Cond.static Lib.Math.min.name ∈ wsL_law := in_r18 _ (mm_at 19 rfl)
theorem wm_18_20 : Cond.initialized "java/lang/Math" ∈ wsL_law := in_r18 _ (mm_at 20 rfl)
theorem wm_18_21 : Cond.code Lib.Math.min.name Lib.Math.min.code 2 (some .int) ∈ wsL_law := in_r18 _ (mm_at 21 rfl)
theorem wm_19_4 : Cond.fieldLink RX8 18 "OrderEcho$Share" "size" "I" ∈ wsL_law := in_r19 _ (mm_at 4 rfl)
theorem wm_19_9 : Cond.methodLink RX8 22 yX8_byNumbers ∈ wsL_law := in_r19 _ (mm_at 9 rfl)
theorem wm_19_10 : Cond.instanceMethod yX8_byNumbers ∈ wsL_law := in_r19 _ (mm_at 10 rfl)
theorem wm_19_11 : Cond.selects RX8 yX8_byNumbers yX8_byNumbers ∈ wsL_law := in_r19 _ (mm_at 11 rfl)
theorem wm_19_12 : Cond.code yX8_byNumbers cX8_byNumbers 4 none ∈ wsL_law := in_r19 _ (mm_at 12 rfl)
theorem wm_19_13 : Cond.methodLink RX8 33 Lib.Math.min.name ∈ wsL_law := in_r19 _ (mm_at 13 rfl)
theorem wm_19_14 : Cond.methodLink RX8 26 yX8_byParts ∈ wsL_law := in_r19 _ (mm_at 14 rfl)
theorem wm_19_15 : Cond.instanceMethod yX8_byParts ∈ wsL_law := in_r19 _ (mm_at 15 rfl)
theorem wm_19_16 : Cond.selects RX8 yX8_byParts yX8_byParts ∈ wsL_law := in_r19 _ (mm_at 16 rfl)
theorem wm_19_17 : Cond.code yX8_byParts cX8_byParts 6 none ∈ wsL_law := in_r19 _ (mm_at 17 rfl)
theorem wm_19_18 : Cond.methodLink RX8 39 yX8_oneEach ∈ wsL_law := in_r19 _ (mm_at 18 rfl)
theorem wm_19_19 : Cond.instanceMethod yX8_oneEach ∈ wsL_law := in_r19 _ (mm_at 19 rfl)
theorem wm_19_20 : Cond.selects RX8 yX8_oneEach yX8_oneEach ∈ wsL_law := in_r19 _ (mm_at 20 rfl)
theorem wm_19_21 : Cond.code yX8_oneEach cX8_oneEach 4 none ∈ wsL_law := in_r19 _ (mm_at 21 rfl)
theorem wm_19_22 : Cond.methodLink RX8 30 yX8_evenly ∈ wsL_law := in_r19 _ (mm_at 22 rfl)
theorem wm_19_23 : Cond.instanceMethod yX8_evenly ∈ wsL_law := in_r19 _ (mm_at 23 rfl)
theorem wm_20_0 : Cond.selects RX8 yX8_evenly yX8_evenly ∈ wsL_law := in_r20 _ (mm_at 0 rfl)
theorem wm_20_1 : Cond.code yX8_evenly cX8_evenly 8 none ∈ wsL_law := in_r20 _ (mm_at 1 rfl)
section
variable {p : Program} {l : Launch} {e : Env} {s : State} {m : MethodId} {args : Array Value} {below : List Frame} {meth : Method} {c : Code} {D : va_G} {G : G3} {ad : Nat → Nat}
def fX8_append_s32 (n : Nat)  (b : Nat)  (st : St) : Option (Unit × St) := some ((), st)
set_option maxHeartbeats 4000000 in
set_option maxRecDepth 100000 in
theorem wX8_append_s32 (C : Cx p s m args meth c cX8_append 2 wsL_law RX8 none D G ad) (n : Nat)  (b : Nat)  (ib : isSh b)  (st : St) (res : (Unit × St))  (hf : fX8_append_s32 n  b  st = some res) : At p l e (rmK 0) s m args below meth c D G ad (MQV D G ad below args s res) 2 st [] 32 [] := by
  obtain ⟨hx, hb, hml, hown, hts, hr, hlk, hK, had, hSt⟩ := id C
  intro H locs ls hl hP hS
  unfold fX8_append_s32 at hf
  exact g_vret hx hb hr hlk hP hS dX8_append_32 hf
def fX8_append_s22 (n : Nat)  (b : Nat)  (st : St) : Option (Unit × St) := fX8_append_s32 n b (setI st b 2 ((st.1 b 2) + 1))
set_option maxHeartbeats 4000000 in
set_option maxRecDepth 100000 in
theorem wX8_append_s22 (C : Cx p s m args meth c cX8_append 2 wsL_law RX8 none D G ad) (n : Nat)  (b : Nat)  (ib : isSh b)  (st : St) (res : (Unit × St))  (hf : fX8_append_s22 n  b  st = some res) : At p l e (rmK 0) s m args below meth c D G ad (MQV D G ad below args s res) 2 st [(0, .ref (ad b))] 22 [] := by
  obtain ⟨hx, hb, hml, hown, hts, hr, hlk, hK, had, hSt⟩ := id C
  intro H locs ls hl hP hS
  unfold fX8_append_s22 at hf
  refine lv_aload_n hx hb dX8_append_22 rfl (lv_at hl 0 rfl) ?_
  refine lv_dup hx hb dX8_append_23 rfl ?_
  refine g_getI hx hb hts inlX8 hown hK hP b (sh_0 ib) rfl 2 (by decide) (hts _ wm_19_4) rfl dX8_append_24 ?_
  refine lv_iconst (v := 1) hx hb dX8_append_27 (by decide) ?_
  refine lv_iadd hx hb dX8_append_28 ?_
  refine g_putI hx hb hts inlX8 tyX8_ok nmX8 hown hK had hP hS b (sh_0 ib) rfl 2 (by decide) (hts _ wm_19_4) rfl rfl rfl rfl rfl dX8_append_29 (fun H locs hP hS => ?_)
  exact wX8_append_s32 C n b ib (setI st b 2 ((st.1 b 2) + 1)) res hf H locs ls (lv_sub hl [] rfl) hP hS
def fX8_append_s12 (n : Nat)  (b : Nat) (v1 : Int32) (st : St) : Option (Unit × St) := if inb (st.1 b 2) 8 = true then (fX8_append_s22 n b (setI st (b + 1) (st.1 b 2).toNatClampNeg v1)) else none
set_option maxHeartbeats 4000000 in
set_option maxRecDepth 100000 in
theorem wX8_append_s12 (C : Cx p s m args meth c cX8_append 2 wsL_law RX8 none D G ad) (n : Nat)  (b : Nat) (v1 : Int32) (ib : isSh b)  (st : St) (res : (Unit × St))  (hf : fX8_append_s12 n  b v1 st = some res) : At p l e (rmK 0) s m args below meth c D G ad (MQV D G ad below args s res) 2 st [(0, .ref (ad b)), (1, .int v1)] 12 [] := by
  obtain ⟨hx, hb, hml, hown, hts, hr, hlk, hK, had, hSt⟩ := id C
  intro H locs ls hl hP hS
  unfold fX8_append_s12 at hf
  refine lv_aload_n hx hb dX8_append_12 rfl (lv_at hl 0 rfl) ?_
  refine g_getR hx hb hts inlX8 hown hK hP b (sh_0 ib) rfl 0 (by decide) (hts _ wm_4_14) rfl dX8_append_13 ?_
  refine lv_aload_n hx hb dX8_append_16 rfl (lv_at hl 0 rfl) ?_
  refine g_getI hx hb hts inlX8 hown hK hP b (sh_0 ib) rfl 2 (by decide) (hts _ wm_19_4) rfl dX8_append_17 ?_
  refine lv_iload_n hx hb dX8_append_20 rfl (lv_at hl 1 rfl) ?_
  obtain ⟨g1, hf⟩ := gd hf
  refine g_iast hx hb hK had hP hS (b + 1) (sh_1 ib) g1 dX8_append_21 (fun H locs hP hS => ?_)
  exact wX8_append_s22 C n b ib (setI st (b + 1) (st.1 b 2).toNatClampNeg v1) res hf H locs ls (lv_sub hl [0] rfl) hP hS
def fX8_append_s0 (n : Nat)  (b : Nat) (v1 : Int32) (st : St) : Option (Unit × St) := if 8 ≤ (st.1 b 2) then fX8_append_s32 n b st else fX8_append_s12 n b v1 st
set_option maxHeartbeats 4000000 in
set_option maxRecDepth 100000 in
theorem wX8_append_s0 (C : Cx p s m args meth c cX8_append 2 wsL_law RX8 none D G ad) (n : Nat)  (b : Nat) (v1 : Int32) (ib : isSh b)  (st : St) (res : (Unit × St))  (hf : fX8_append_s0 n  b v1 st = some res) : At p l e (rmK 0) s m args below meth c D G ad (MQV D G ad below args s res) 2 st [(0, .ref (ad b)), (1, .int v1)] 0 [] := by
  obtain ⟨hx, hb, hml, hown, hts, hr, hlk, hK, had, hSt⟩ := id C
  intro H locs ls hl hP hS
  unfold fX8_append_s0 at hf
  refine lv_aload_n hx hb dX8_append_0 rfl (lv_at hl 0 rfl) ?_
  refine g_getI hx hb hts inlX8 hown hK hP b (sh_0 ib) rfl 2 (by decide) (hts _ wm_19_4) rfl dX8_append_1 ?_
  refine lv_aload_n hx hb dX8_append_4 rfl (lv_at hl 0 rfl) ?_
  refine g_getR hx hb hts inlX8 hown hK hP b (sh_0 ib) rfl 0 (by decide) (hts _ wm_4_14) rfl dX8_append_5 ?_
  refine g_alen hx hb hK hP (b + 1) (sh_1 ib) dX8_append_8 ?_
  refine lv_topc (v := 8) (by decide) ?_
  refine lv_icmp_ge (tgt := 32) hx hb dX8_append_9 (by decide) (fun q => ?_) (fun q => ?_)
  · exact wX8_append_s32 C n b ib st res (it hf q) H locs ls (lv_sub hl [] rfl) hP hS
  · exact wX8_append_s12 C n b v1 ib st res (ie hf q) H locs ls (lv_sub hl [0, 1] rfl) hP hS
def fX8_append (n : Nat) (b : Nat) (a1 : Int32) (st : St) : Option (Unit × St) := fX8_append_s0 n b a1 st
theorem okX8_append : okY yX8_append RX8 1 := by unfold okY; decide +kernel
end
set_option maxRecDepth 100000 in
theorem kX8_append (l : Launch) (D : va_G) (G : G3) (ad : Nat → Nat) (had : Adr ad) (n : Nat) (b : Nat) (ib : isSh b) (a1 : Int32) (st : St) (res : (Unit × St)) (hf : fX8_append n b a1 st = some res) {sz : Nat} : CtV l yX8_append (wsU yX8_append cX8_append 2 none) (rmK 0) D G ad sz [.ref (ad b), .int a1] st res := by
  refine Met.ofW (cc := cX8_append) (maxL := 2) (ret := none) (by decide) rfl ?_
  intro p e s m args below meth c s₁ B hml hv
  obtain ⟨rfl, hsz, hP, hK, hSt⟩ := hv
  have hts := atoms_spec (ws := wsU yX8_append cX8_append 2 none) B.pre
  have C : Cx p s m _ meth c cX8_append 2 wsL_law RX8 none D G ad := ⟨B.exec, B.bytes, hml, findClass_of_methodNamed B.named, fun w h => hts w (List.mem_cons_of_mem _ h), B.returns, B.notSynchronized, hK, had, hSt⟩
  subst hsz
  have hl := lv_entry ([.ref (ad b), .int a1]) (n := 2) (Nat.le_of_ble_eq_true rfl)
  rw [lg_entry_eq]
  generalize (lg_sl ([.ref (ad b), .int a1]) ++ List.replicate (2 - (lg_sl ([.ref (ad b), .int a1])).length) Slot.unset).toArray = ls at hl ⊢
  exact wX8_append_s0 C n b a1 ib  st res hf s.heap [] ls (lv_sub hl [0, 1] rfl) hP va_S.rf
section
variable {p : Program} {l : Launch} {e : Env} {s : State} {m : MethodId} {args : Array Value} {below : List Frame} {meth : Method} {c : Code} {D : va_G} {G : G3} {ad : Nat → Nat}
def fX8_byNumbers_s43 (n : Nat)  (b : Nat)  (st : St) : Option (Unit × St) := some ((), st)
set_option maxHeartbeats 4000000 in
set_option maxRecDepth 100000 in
theorem wX8_byNumbers_s43 (C : Cx p s m args meth c cX8_byNumbers 4 wsL_law RX8 none D G ad) (n : Nat)  (b : Nat)  (ib : isSh b)  (st : St) (res : (Unit × St))  (hf : fX8_byNumbers_s43 n  b  st = some res) : At p l e (rmK 1) s m args below meth c D G ad (MQV D G ad below args s res) 4 st [] 43 [] := by
  obtain ⟨hx, hb, hml, hown, hts, hr, hlk, hK, had, hSt⟩ := id C
  intro H locs ls hl hP hS
  unfold fX8_byNumbers_s43 at hf
  exact g_vret hx hb hr hlk hP hS dX8_byNumbers_43 hf
def fX8_byNumbers_s28 (n : Nat) (K4 : Int32 → Int32 → St → Option (Unit × St)) (b : Nat) (v2 : Int32) (v3 : Int32) (st : St) : Option (Unit × St) := if inb v3 8 = true then (K4 (v2 - (st.1 (b + 2) v3.toNatClampNeg)) (v3 + 1) st) else none
set_option maxHeartbeats 4000000 in
set_option maxRecDepth 100000 in
theorem wX8_byNumbers_s28 (C : Cx p s m args meth c cX8_byNumbers 4 wsL_law RX8 none D G ad) (n : Nat) (K4 : Int32 → Int32 → St → Option (Unit × St)) (b : Nat) (v2 : Int32) (v3 : Int32) (ib : isSh b)  (st : St) (res : (Unit × St)) (hK4 : ∀ (v2 : Int32) (v3 : Int32) (st : St), K4 v2 v3 st = some res → At p l e (rmK 1) s m args below meth c D G ad (MQV D G ad below args s res) 4 st [(0, .ref (ad b)), (2, .int v2), (3, .int v3)] 4 []) (hf : fX8_byNumbers_s28 n K4 b v2 v3 st = some res) : At p l e (rmK 1) s m args below meth c D G ad (MQV D G ad below args s res) 4 st [(0, .ref (ad b)), (2, .int v2), (3, .int v3)] 28 [] := by
  obtain ⟨hx, hb, hml, hown, hts, hr, hlk, hK, had, hSt⟩ := id C
  intro H locs ls hl hP hS
  unfold fX8_byNumbers_s28 at hf
  refine lv_iload_n hx hb dX8_byNumbers_28 rfl (lv_at hl 1 rfl) ?_
  refine lv_aload_n hx hb dX8_byNumbers_29 rfl (lv_at hl 0 rfl) ?_
  refine g_getR hx hb hts inlX8 hown hK hP b (sh_0 ib) rfl 1 (by decide) (hts _ wm_4_15) rfl dX8_byNumbers_30 ?_
  refine lv_iload_n hx hb dX8_byNumbers_33 rfl (lv_at hl 2 rfl) ?_
  obtain ⟨g1, hf⟩ := gd hf
  refine g_iald hx hb hK hP (b + 2) (sh_2 ib) g1 dX8_byNumbers_34 ?_
  refine lv_isub hx hb dX8_byNumbers_35 ?_
  refine lv_istore_n (lv' := [(2, .int (v2 - (st.1 (b + 2) v3.toNatClampNeg))), (0, .ref (ad b)), (3, .int v3)]) hx hb dX8_byNumbers_36 rfl hl (by decide) rfl (fun ls hl => ?_)
  refine lv_iinc (v := v3 + 1) (lv' := [(3, .int (v3 + 1)), (2, .int (v2 - (st.1 (b + 2) v3.toNatClampNeg))), (0, .ref (ad b))]) hx hb dX8_byNumbers_37 hl (k := 2) rfl rfl (by decide) rfl (fun ls hl => ?_)
  refine lv_goto (tgt := 4) hx hb dX8_byNumbers_40 (by decide) ?_
  exact hK4 (v2 - (st.1 (b + 2) v3.toNatClampNeg)) (v3 + 1)  st hf H locs ls (lv_sub hl [2, 1, 0] rfl) hP hS
def fX8_byNumbers_s12 (n : Nat) (K4 : Int32 → Int32 → St → Option (Unit × St)) (b : Nat) (v2 : Int32) (v3 : Int32) (st : St) : Option (Unit × St) := if inb v3 8 = true then (if inb v3 8 = true then (fX8_byNumbers_s28 n K4 b v2 v3 (setI st (b + 2) v3.toNatClampNeg (if (st.1 (b + 1) v3.toNatClampNeg) < v2 then (st.1 (b + 1) v3.toNatClampNeg) else v2))) else none) else none
set_option maxHeartbeats 4000000 in
set_option maxRecDepth 100000 in
theorem wX8_byNumbers_s12 (C : Cx p s m args meth c cX8_byNumbers 4 wsL_law RX8 none D G ad) (n : Nat) (K4 : Int32 → Int32 → St → Option (Unit × St)) (b : Nat) (v2 : Int32) (v3 : Int32) (ib : isSh b)  (st : St) (res : (Unit × St)) (hK4 : ∀ (v2 : Int32) (v3 : Int32) (st : St), K4 v2 v3 st = some res → At p l e (rmK 1) s m args below meth c D G ad (MQV D G ad below args s res) 4 st [(0, .ref (ad b)), (2, .int v2), (3, .int v3)] 4 []) (hf : fX8_byNumbers_s12 n K4 b v2 v3 st = some res) : At p l e (rmK 1) s m args below meth c D G ad (MQV D G ad below args s res) 4 st [(0, .ref (ad b)), (2, .int v2), (3, .int v3)] 12 [] := by
  obtain ⟨hx, hb, hml, hown, hts, hr, hlk, hK, had, hSt⟩ := id C
  intro H locs ls hl hP hS
  unfold fX8_byNumbers_s12 at hf
  refine lv_aload_n hx hb dX8_byNumbers_12 rfl (lv_at hl 0 rfl) ?_
  refine g_getR hx hb hts inlX8 hown hK hP b (sh_0 ib) rfl 1 (by decide) (hts _ wm_4_15) rfl dX8_byNumbers_13 ?_
  refine lv_iload_n hx hb dX8_byNumbers_16 rfl (lv_at hl 2 rfl) ?_
  refine lv_iload_n hx hb dX8_byNumbers_17 rfl (lv_at hl 1 rfl) ?_
  refine lv_aload_n hx hb dX8_byNumbers_18 rfl (lv_at hl 0 rfl) ?_
  refine g_getR hx hb hts inlX8 hown hK hP b (sh_0 ib) rfl 0 (by decide) (hts _ wm_4_14) rfl dX8_byNumbers_19 ?_
  refine lv_iload_n hx hb dX8_byNumbers_22 rfl (lv_at hl 2 rfl) ?_
  obtain ⟨g1, hf⟩ := gd hf
  refine g_iald hx hb hK hP (b + 1) (sh_1 ib) g1 dX8_byNumbers_23 ?_
  refine va_mmin hx hb (hml.trans hl.1.symm) hown (hts _ wm_19_13) (hts _ wm_18_19) (hts _ wm_18_20) (hts _ wm_18_21) (Nat.le_of_ble_eq_true rfl) (Nat.le_of_ble_eq_true rfl) (Nat.zero_le _) (Nat.zero_le _) dX8_byNumbers_24 ?_
  obtain ⟨g2, hf⟩ := gd hf
  refine g_iast hx hb hK had hP hS (b + 2) (sh_2 ib) g2 dX8_byNumbers_27 (fun H locs hP hS => ?_)
  exact wX8_byNumbers_s28 C n K4 b v2 v3 ib (setI st (b + 2) v3.toNatClampNeg (if (st.1 (b + 1) v3.toNatClampNeg) < v2 then (st.1 (b + 1) v3.toNatClampNeg) else v2)) res hK4 hf H locs ls (lv_sub hl [0, 1, 2] rfl) hP hS
def fX8_byNumbers_s4 (n : Nat) (K4 : Int32 → Int32 → St → Option (Unit × St)) (b : Nat) (v2 : Int32) (v3 : Int32) (st : St) : Option (Unit × St) := if (st.1 b 2) ≤ v3 then fX8_byNumbers_s43 n b st else fX8_byNumbers_s12 n K4 b v2 v3 st
set_option maxHeartbeats 4000000 in
set_option maxRecDepth 100000 in
theorem wX8_byNumbers_s4 (C : Cx p s m args meth c cX8_byNumbers 4 wsL_law RX8 none D G ad) (n : Nat) (K4 : Int32 → Int32 → St → Option (Unit × St)) (b : Nat) (v2 : Int32) (v3 : Int32) (ib : isSh b)  (st : St) (res : (Unit × St)) (hK4 : ∀ (v2 : Int32) (v3 : Int32) (st : St), K4 v2 v3 st = some res → At p l e (rmK 1) s m args below meth c D G ad (MQV D G ad below args s res) 4 st [(0, .ref (ad b)), (2, .int v2), (3, .int v3)] 4 []) (hf : fX8_byNumbers_s4 n K4 b v2 v3 st = some res) : At p l e (rmK 1) s m args below meth c D G ad (MQV D G ad below args s res) 4 st [(0, .ref (ad b)), (2, .int v2), (3, .int v3)] 4 [] := by
  obtain ⟨hx, hb, hml, hown, hts, hr, hlk, hK, had, hSt⟩ := id C
  intro H locs ls hl hP hS
  unfold fX8_byNumbers_s4 at hf
  refine lv_iload_n hx hb dX8_byNumbers_4 rfl (lv_at hl 2 rfl) ?_
  refine lv_aload_n hx hb dX8_byNumbers_5 rfl (lv_at hl 0 rfl) ?_
  refine g_getI hx hb hts inlX8 hown hK hP b (sh_0 ib) rfl 2 (by decide) (hts _ wm_19_4) rfl dX8_byNumbers_6 ?_
  refine lv_icmp_ge (tgt := 43) hx hb dX8_byNumbers_9 (by decide) (fun q => ?_) (fun q => ?_)
  · exact wX8_byNumbers_s43 C n b ib st res (it hf q) H locs ls (lv_sub hl [] rfl) hP hS
  · exact wX8_byNumbers_s12 C n K4 b v2 v3 ib st res hK4 (ie hf q) H locs ls (lv_sub hl [0, 1, 2] rfl) hP hS
def fX8_byNumbers_L4 (n : Nat)  (b : Nat) : Nat → Int32 → Int32 → St → Option (Unit × St)
  | 0, _, _, _ => none
  | k + 1, v2, v3, st => fX8_byNumbers_s4 n (fX8_byNumbers_L4 n b k) b v2 v3 st
theorem wX8_byNumbers_L4 (C : Cx p s m args meth c cX8_byNumbers 4 wsL_law RX8 none D G ad) (n : Nat)  (b : Nat) (ib : isSh b) (res : (Unit × St))  : ∀ (k : Nat) (v2 : Int32) (v3 : Int32)  (st : St), fX8_byNumbers_L4 n b k v2 v3 st = some res → At p l e (rmK 1) s m args below meth c D G ad (MQV D G ad below args s res) 4 st [(0, .ref (ad b)), (2, .int v2), (3, .int v3)] 4 [] := by
  intro k
  induction k with
  | zero => intro v2 v3  st h; exact absurd h (by intro q; cases q)
  | succ k ih => intro v2 v3  st h; exact wX8_byNumbers_s4 C n (fX8_byNumbers_L4 n b k) b v2 v3 ib  st res ih h
def fX8_byNumbers_s0 (n : Nat)  (b : Nat) (v1 : Int32) (st : St) : Option (Unit × St) := fX8_byNumbers_L4 n b n v1 0 st
set_option maxHeartbeats 4000000 in
set_option maxRecDepth 100000 in
theorem wX8_byNumbers_s0 (C : Cx p s m args meth c cX8_byNumbers 4 wsL_law RX8 none D G ad) (n : Nat)  (b : Nat) (v1 : Int32) (ib : isSh b)  (st : St) (res : (Unit × St))  (hf : fX8_byNumbers_s0 n  b v1 st = some res) : At p l e (rmK 1) s m args below meth c D G ad (MQV D G ad below args s res) 4 st [(0, .ref (ad b)), (1, .int v1)] 0 [] := by
  obtain ⟨hx, hb, hml, hown, hts, hr, hlk, hK, had, hSt⟩ := id C
  intro H locs ls hl hP hS
  unfold fX8_byNumbers_s0 at hf
  refine lv_iload_n hx hb dX8_byNumbers_0 rfl (lv_at hl 1 rfl) ?_
  refine lv_istore_n (lv' := [(2, .int v1), (0, .ref (ad b)), (1, .int v1)]) hx hb dX8_byNumbers_1 rfl hl (by decide) rfl (fun ls hl => ?_)
  refine lv_iconst (v := 0) hx hb dX8_byNumbers_2 (by decide) ?_
  refine lv_istore_n (lv' := [(3, .int 0), (2, .int v1), (0, .ref (ad b)), (1, .int v1)]) hx hb dX8_byNumbers_3 rfl hl (by decide) rfl (fun ls hl => ?_)
  exact wX8_byNumbers_L4 C n b ib res n v1 0 st hf H locs ls (lv_sub hl [2, 1, 0] rfl) hP hS
def fX8_byNumbers (n : Nat) (b : Nat) (a1 : Int32) (st : St) : Option (Unit × St) := fX8_byNumbers_s0 n b a1 st
theorem okX8_byNumbers : okY yX8_byNumbers RX8 1 := by unfold okY; decide +kernel
end
set_option maxRecDepth 100000 in
theorem kX8_byNumbers (l : Launch) (D : va_G) (G : G3) (ad : Nat → Nat) (had : Adr ad) (n : Nat) (b : Nat) (ib : isSh b) (a1 : Int32) (st : St) (res : (Unit × St)) (hf : fX8_byNumbers n b a1 st = some res) {sz : Nat} : CtV l yX8_byNumbers (wsU yX8_byNumbers cX8_byNumbers 4 none) (rmK 1) D G ad sz [.ref (ad b), .int a1] st res := by
  refine Met.ofW (cc := cX8_byNumbers) (maxL := 4) (ret := none) (by decide) rfl ?_
  intro p e s m args below meth c s₁ B hml hv
  obtain ⟨rfl, hsz, hP, hK, hSt⟩ := hv
  have hts := atoms_spec (ws := wsU yX8_byNumbers cX8_byNumbers 4 none) B.pre
  have C : Cx p s m _ meth c cX8_byNumbers 4 wsL_law RX8 none D G ad := ⟨B.exec, B.bytes, hml, findClass_of_methodNamed B.named, fun w h => hts w (List.mem_cons_of_mem _ h), B.returns, B.notSynchronized, hK, had, hSt⟩
  subst hsz
  have hl := lv_entry ([.ref (ad b), .int a1]) (n := 4) (Nat.le_of_ble_eq_true rfl)
  rw [lg_entry_eq]
  generalize (lg_sl ([.ref (ad b), .int a1]) ++ List.replicate (4 - (lg_sl ([.ref (ad b), .int a1])).length) Slot.unset).toArray = ls at hl ⊢
  exact wX8_byNumbers_s0 C n b a1 ib  st res hf s.heap [] ls (lv_sub hl [0, 1] rfl) hP va_S.rf
section
variable {p : Program} {l : Launch} {e : Env} {s : State} {m : MethodId} {args : Array Value} {below : List Frame} {meth : Method} {c : Code} {D : va_G} {G : G3} {ad : Nat → Nat}
def fX8_oneEach_s50 (n : Nat)  (b : Nat)  (st : St) : Option (Unit × St) := some ((), st)
set_option maxHeartbeats 4000000 in
set_option maxRecDepth 100000 in
theorem wX8_oneEach_s50 (C : Cx p s m args meth c cX8_oneEach 4 wsL_law RX8 none D G ad) (n : Nat)  (b : Nat)  (ib : isSh b)  (st : St) (res : (Unit × St))  (hf : fX8_oneEach_s50 n  b  st = some res) : At p l e (rmK 0) s m args below meth c D G ad (MQV D G ad below args s res) 4 st [] 50 [] := by
  obtain ⟨hx, hb, hml, hown, hts, hr, hlk, hK, had, hSt⟩ := id C
  intro H locs ls hl hP hS
  unfold fX8_oneEach_s50 at hf
  exact g_vret hx hb hr hlk hP hS dX8_oneEach_50 hf
def fX8_oneEach_s44 (n : Nat) (K4 : Int32 → Int32 → St → Option (Unit × St)) (b : Nat) (v2 : Int32) (v3 : Int32) (st : St) : Option (Unit × St) := K4 v2 (v3 + 1) st
set_option maxHeartbeats 4000000 in
set_option maxRecDepth 100000 in
theorem wX8_oneEach_s44 (C : Cx p s m args meth c cX8_oneEach 4 wsL_law RX8 none D G ad) (n : Nat) (K4 : Int32 → Int32 → St → Option (Unit × St)) (b : Nat) (v2 : Int32) (v3 : Int32) (ib : isSh b)  (st : St) (res : (Unit × St)) (hK4 : ∀ (v2 : Int32) (v3 : Int32) (st : St), K4 v2 v3 st = some res → At p l e (rmK 0) s m args below meth c D G ad (MQV D G ad below args s res) 4 st [(0, .ref (ad b)), (2, .int v2), (3, .int v3)] 4 []) (hf : fX8_oneEach_s44 n K4 b v2 v3 st = some res) : At p l e (rmK 0) s m args below meth c D G ad (MQV D G ad below args s res) 4 st [(0, .ref (ad b)), (2, .int v2), (3, .int v3)] 44 [] := by
  obtain ⟨hx, hb, hml, hown, hts, hr, hlk, hK, had, hSt⟩ := id C
  intro H locs ls hl hP hS
  unfold fX8_oneEach_s44 at hf
  refine lv_iinc (v := v3 + 1) (lv' := [(3, .int (v3 + 1)), (0, .ref (ad b)), (2, .int v2)]) hx hb dX8_oneEach_44 hl (k := 2) rfl rfl (by decide) rfl (fun ls hl => ?_)
  refine lv_goto (tgt := 4) hx hb dX8_oneEach_47 (by decide) ?_
  exact hK4 v2 (v3 + 1)  st hf H locs ls (lv_sub hl [1, 2, 0] rfl) hP hS
def fX8_oneEach_s41 (n : Nat) (K4 : Int32 → Int32 → St → Option (Unit × St)) (b : Nat) (v2 : Int32) (v3 : Int32) (st : St) : Option (Unit × St) := fX8_oneEach_s44 n K4 b (v2 + (-1)) v3 st
set_option maxHeartbeats 4000000 in
set_option maxRecDepth 100000 in
theorem wX8_oneEach_s41 (C : Cx p s m args meth c cX8_oneEach 4 wsL_law RX8 none D G ad) (n : Nat) (K4 : Int32 → Int32 → St → Option (Unit × St)) (b : Nat) (v2 : Int32) (v3 : Int32) (ib : isSh b)  (st : St) (res : (Unit × St)) (hK4 : ∀ (v2 : Int32) (v3 : Int32) (st : St), K4 v2 v3 st = some res → At p l e (rmK 0) s m args below meth c D G ad (MQV D G ad below args s res) 4 st [(0, .ref (ad b)), (2, .int v2), (3, .int v3)] 4 []) (hf : fX8_oneEach_s41 n K4 b v2 v3 st = some res) : At p l e (rmK 0) s m args below meth c D G ad (MQV D G ad below args s res) 4 st [(0, .ref (ad b)), (2, .int v2), (3, .int v3)] 41 [] := by
  obtain ⟨hx, hb, hml, hown, hts, hr, hlk, hK, had, hSt⟩ := id C
  intro H locs ls hl hP hS
  unfold fX8_oneEach_s41 at hf
  refine lv_iinc (v := v2 + (-1)) (lv' := [(2, .int (v2 + (-1))), (0, .ref (ad b)), (3, .int v3)]) hx hb dX8_oneEach_41 hl (k := 1) rfl rfl (by decide) rfl (fun ls hl => ?_)
  exact wX8_oneEach_s44 C n K4 b (v2 + (-1)) v3 ib st res hK4 hf H locs ls (lv_sub hl [1, 0, 2] rfl) hP hS
def fX8_oneEach_s31 (n : Nat) (K4 : Int32 → Int32 → St → Option (Unit × St)) (b : Nat) (v2 : Int32) (v3 : Int32) (st : St) : Option (Unit × St) := if inb v3 8 = true then (if inb v3 8 = true then (fX8_oneEach_s41 n K4 b v2 v3 (setI st (b + 2) v3.toNatClampNeg ((st.1 (b + 2) v3.toNatClampNeg) + 1))) else none) else none
set_option maxHeartbeats 4000000 in
set_option maxRecDepth 100000 in
theorem wX8_oneEach_s31 (C : Cx p s m args meth c cX8_oneEach 4 wsL_law RX8 none D G ad) (n : Nat) (K4 : Int32 → Int32 → St → Option (Unit × St)) (b : Nat) (v2 : Int32) (v3 : Int32) (ib : isSh b)  (st : St) (res : (Unit × St)) (hK4 : ∀ (v2 : Int32) (v3 : Int32) (st : St), K4 v2 v3 st = some res → At p l e (rmK 0) s m args below meth c D G ad (MQV D G ad below args s res) 4 st [(0, .ref (ad b)), (2, .int v2), (3, .int v3)] 4 []) (hf : fX8_oneEach_s31 n K4 b v2 v3 st = some res) : At p l e (rmK 0) s m args below meth c D G ad (MQV D G ad below args s res) 4 st [(0, .ref (ad b)), (2, .int v2), (3, .int v3)] 31 [] := by
  obtain ⟨hx, hb, hml, hown, hts, hr, hlk, hK, had, hSt⟩ := id C
  intro H locs ls hl hP hS
  unfold fX8_oneEach_s31 at hf
  refine lv_aload_n hx hb dX8_oneEach_31 rfl (lv_at hl 0 rfl) ?_
  refine g_getR hx hb hts inlX8 hown hK hP b (sh_0 ib) rfl 1 (by decide) (hts _ wm_4_15) rfl dX8_oneEach_32 ?_
  refine lv_iload_n hx hb dX8_oneEach_35 rfl (lv_at hl 2 rfl) ?_
  refine lv_dup2_11 hx hb dX8_oneEach_36 rfl rfl ?_
  obtain ⟨g1, hf⟩ := gd hf
  refine g_iald hx hb hK hP (b + 2) (sh_2 ib) g1 dX8_oneEach_37 ?_
  refine lv_iconst (v := 1) hx hb dX8_oneEach_38 (by decide) ?_
  refine lv_iadd hx hb dX8_oneEach_39 ?_
  obtain ⟨g2, hf⟩ := gd hf
  refine g_iast hx hb hK had hP hS (b + 2) (sh_2 ib) g2 dX8_oneEach_40 (fun H locs hP hS => ?_)
  exact wX8_oneEach_s41 C n K4 b v2 v3 ib (setI st (b + 2) v3.toNatClampNeg ((st.1 (b + 2) v3.toNatClampNeg) + 1)) res hK4 hf H locs ls (lv_sub hl [0, 1, 2] rfl) hP hS
def fX8_oneEach_s16 (n : Nat) (K4 : Int32 → Int32 → St → Option (Unit × St)) (b : Nat) (v2 : Int32) (v3 : Int32) (st : St) : Option (Unit × St) := if inb v3 8 = true then (if inb v3 8 = true then (if (st.1 (b + 1) v3.toNatClampNeg) ≤ (st.1 (b + 2) v3.toNatClampNeg) then fX8_oneEach_s44 n K4 b v2 v3 st else fX8_oneEach_s31 n K4 b v2 v3 st) else none) else none
set_option maxHeartbeats 4000000 in
set_option maxRecDepth 100000 in
theorem wX8_oneEach_s16 (C : Cx p s m args meth c cX8_oneEach 4 wsL_law RX8 none D G ad) (n : Nat) (K4 : Int32 → Int32 → St → Option (Unit × St)) (b : Nat) (v2 : Int32) (v3 : Int32) (ib : isSh b)  (st : St) (res : (Unit × St)) (hK4 : ∀ (v2 : Int32) (v3 : Int32) (st : St), K4 v2 v3 st = some res → At p l e (rmK 0) s m args below meth c D G ad (MQV D G ad below args s res) 4 st [(0, .ref (ad b)), (2, .int v2), (3, .int v3)] 4 []) (hf : fX8_oneEach_s16 n K4 b v2 v3 st = some res) : At p l e (rmK 0) s m args below meth c D G ad (MQV D G ad below args s res) 4 st [(0, .ref (ad b)), (2, .int v2), (3, .int v3)] 16 [] := by
  obtain ⟨hx, hb, hml, hown, hts, hr, hlk, hK, had, hSt⟩ := id C
  intro H locs ls hl hP hS
  unfold fX8_oneEach_s16 at hf
  refine lv_aload_n hx hb dX8_oneEach_16 rfl (lv_at hl 0 rfl) ?_
  refine g_getR hx hb hts inlX8 hown hK hP b (sh_0 ib) rfl 1 (by decide) (hts _ wm_4_15) rfl dX8_oneEach_17 ?_
  refine lv_iload_n hx hb dX8_oneEach_20 rfl (lv_at hl 2 rfl) ?_
  obtain ⟨g1, hf⟩ := gd hf
  refine g_iald hx hb hK hP (b + 2) (sh_2 ib) g1 dX8_oneEach_21 ?_
  refine lv_aload_n hx hb dX8_oneEach_22 rfl (lv_at hl 0 rfl) ?_
  refine g_getR hx hb hts inlX8 hown hK hP b (sh_0 ib) rfl 0 (by decide) (hts _ wm_4_14) rfl dX8_oneEach_23 ?_
  refine lv_iload_n hx hb dX8_oneEach_26 rfl (lv_at hl 2 rfl) ?_
  obtain ⟨g2, hf⟩ := gd hf
  refine g_iald hx hb hK hP (b + 1) (sh_1 ib) g2 dX8_oneEach_27 ?_
  refine lv_icmp_ge (tgt := 44) hx hb dX8_oneEach_28 (by decide) (fun q => ?_) (fun q => ?_)
  · exact wX8_oneEach_s44 C n K4 b v2 v3 ib st res hK4 (it hf q) H locs ls (lv_sub hl [0, 1, 2] rfl) hP hS
  · exact wX8_oneEach_s31 C n K4 b v2 v3 ib st res hK4 (ie hf q) H locs ls (lv_sub hl [0, 1, 2] rfl) hP hS
def fX8_oneEach_s12 (n : Nat) (K4 : Int32 → Int32 → St → Option (Unit × St)) (b : Nat) (v2 : Int32) (v3 : Int32) (st : St) : Option (Unit × St) := if v2 ≤ 0 then fX8_oneEach_s50 n b st else fX8_oneEach_s16 n K4 b v2 v3 st
set_option maxHeartbeats 4000000 in
set_option maxRecDepth 100000 in
theorem wX8_oneEach_s12 (C : Cx p s m args meth c cX8_oneEach 4 wsL_law RX8 none D G ad) (n : Nat) (K4 : Int32 → Int32 → St → Option (Unit × St)) (b : Nat) (v2 : Int32) (v3 : Int32) (ib : isSh b)  (st : St) (res : (Unit × St)) (hK4 : ∀ (v2 : Int32) (v3 : Int32) (st : St), K4 v2 v3 st = some res → At p l e (rmK 0) s m args below meth c D G ad (MQV D G ad below args s res) 4 st [(0, .ref (ad b)), (2, .int v2), (3, .int v3)] 4 []) (hf : fX8_oneEach_s12 n K4 b v2 v3 st = some res) : At p l e (rmK 0) s m args below meth c D G ad (MQV D G ad below args s res) 4 st [(0, .ref (ad b)), (2, .int v2), (3, .int v3)] 12 [] := by
  obtain ⟨hx, hb, hml, hown, hts, hr, hlk, hK, had, hSt⟩ := id C
  intro H locs ls hl hP hS
  unfold fX8_oneEach_s12 at hf
  refine lv_iload_n hx hb dX8_oneEach_12 rfl (lv_at hl 1 rfl) ?_
  refine lv_if_le (tgt := 50) hx hb dX8_oneEach_13 (by decide) (fun q => ?_) (fun q => ?_)
  · exact wX8_oneEach_s50 C n b ib st res (it hf q) H locs ls (lv_sub hl [] rfl) hP hS
  · exact wX8_oneEach_s16 C n K4 b v2 v3 ib st res hK4 (ie hf q) H locs ls (lv_sub hl [0, 1, 2] rfl) hP hS
def fX8_oneEach_s4 (n : Nat) (K4 : Int32 → Int32 → St → Option (Unit × St)) (b : Nat) (v2 : Int32) (v3 : Int32) (st : St) : Option (Unit × St) := if (st.1 b 2) ≤ v3 then fX8_oneEach_s50 n b st else fX8_oneEach_s12 n K4 b v2 v3 st
set_option maxHeartbeats 4000000 in
set_option maxRecDepth 100000 in
theorem wX8_oneEach_s4 (C : Cx p s m args meth c cX8_oneEach 4 wsL_law RX8 none D G ad) (n : Nat) (K4 : Int32 → Int32 → St → Option (Unit × St)) (b : Nat) (v2 : Int32) (v3 : Int32) (ib : isSh b)  (st : St) (res : (Unit × St)) (hK4 : ∀ (v2 : Int32) (v3 : Int32) (st : St), K4 v2 v3 st = some res → At p l e (rmK 0) s m args below meth c D G ad (MQV D G ad below args s res) 4 st [(0, .ref (ad b)), (2, .int v2), (3, .int v3)] 4 []) (hf : fX8_oneEach_s4 n K4 b v2 v3 st = some res) : At p l e (rmK 0) s m args below meth c D G ad (MQV D G ad below args s res) 4 st [(0, .ref (ad b)), (2, .int v2), (3, .int v3)] 4 [] := by
  obtain ⟨hx, hb, hml, hown, hts, hr, hlk, hK, had, hSt⟩ := id C
  intro H locs ls hl hP hS
  unfold fX8_oneEach_s4 at hf
  refine lv_iload_n hx hb dX8_oneEach_4 rfl (lv_at hl 2 rfl) ?_
  refine lv_aload_n hx hb dX8_oneEach_5 rfl (lv_at hl 0 rfl) ?_
  refine g_getI hx hb hts inlX8 hown hK hP b (sh_0 ib) rfl 2 (by decide) (hts _ wm_19_4) rfl dX8_oneEach_6 ?_
  refine lv_icmp_ge (tgt := 50) hx hb dX8_oneEach_9 (by decide) (fun q => ?_) (fun q => ?_)
  · exact wX8_oneEach_s50 C n b ib st res (it hf q) H locs ls (lv_sub hl [] rfl) hP hS
  · exact wX8_oneEach_s12 C n K4 b v2 v3 ib st res hK4 (ie hf q) H locs ls (lv_sub hl [0, 1, 2] rfl) hP hS
def fX8_oneEach_L4 (n : Nat)  (b : Nat) : Nat → Int32 → Int32 → St → Option (Unit × St)
  | 0, _, _, _ => none
  | k + 1, v2, v3, st => fX8_oneEach_s4 n (fX8_oneEach_L4 n b k) b v2 v3 st
theorem wX8_oneEach_L4 (C : Cx p s m args meth c cX8_oneEach 4 wsL_law RX8 none D G ad) (n : Nat)  (b : Nat) (ib : isSh b) (res : (Unit × St))  : ∀ (k : Nat) (v2 : Int32) (v3 : Int32)  (st : St), fX8_oneEach_L4 n b k v2 v3 st = some res → At p l e (rmK 0) s m args below meth c D G ad (MQV D G ad below args s res) 4 st [(0, .ref (ad b)), (2, .int v2), (3, .int v3)] 4 [] := by
  intro k
  induction k with
  | zero => intro v2 v3  st h; exact absurd h (by intro q; cases q)
  | succ k ih => intro v2 v3  st h; exact wX8_oneEach_s4 C n (fX8_oneEach_L4 n b k) b v2 v3 ib  st res ih h
def fX8_oneEach_s0 (n : Nat)  (b : Nat) (v1 : Int32) (st : St) : Option (Unit × St) := fX8_oneEach_L4 n b n v1 0 st
set_option maxHeartbeats 4000000 in
set_option maxRecDepth 100000 in
theorem wX8_oneEach_s0 (C : Cx p s m args meth c cX8_oneEach 4 wsL_law RX8 none D G ad) (n : Nat)  (b : Nat) (v1 : Int32) (ib : isSh b)  (st : St) (res : (Unit × St))  (hf : fX8_oneEach_s0 n  b v1 st = some res) : At p l e (rmK 0) s m args below meth c D G ad (MQV D G ad below args s res) 4 st [(0, .ref (ad b)), (1, .int v1)] 0 [] := by
  obtain ⟨hx, hb, hml, hown, hts, hr, hlk, hK, had, hSt⟩ := id C
  intro H locs ls hl hP hS
  unfold fX8_oneEach_s0 at hf
  refine lv_iload_n hx hb dX8_oneEach_0 rfl (lv_at hl 1 rfl) ?_
  refine lv_istore_n (lv' := [(2, .int v1), (0, .ref (ad b)), (1, .int v1)]) hx hb dX8_oneEach_1 rfl hl (by decide) rfl (fun ls hl => ?_)
  refine lv_iconst (v := 0) hx hb dX8_oneEach_2 (by decide) ?_
  refine lv_istore_n (lv' := [(3, .int 0), (2, .int v1), (0, .ref (ad b)), (1, .int v1)]) hx hb dX8_oneEach_3 rfl hl (by decide) rfl (fun ls hl => ?_)
  exact wX8_oneEach_L4 C n b ib res n v1 0 st hf H locs ls (lv_sub hl [2, 1, 0] rfl) hP hS
def fX8_oneEach (n : Nat) (b : Nat) (a1 : Int32) (st : St) : Option (Unit × St) := fX8_oneEach_s0 n b a1 st
theorem okX8_oneEach : okY yX8_oneEach RX8 1 := by unfold okY; decide +kernel
end
set_option maxRecDepth 100000 in
theorem kX8_oneEach (l : Launch) (D : va_G) (G : G3) (ad : Nat → Nat) (had : Adr ad) (n : Nat) (b : Nat) (ib : isSh b) (a1 : Int32) (st : St) (res : (Unit × St)) (hf : fX8_oneEach n b a1 st = some res) {sz : Nat} : CtV l yX8_oneEach (wsU yX8_oneEach cX8_oneEach 4 none) (rmK 0) D G ad sz [.ref (ad b), .int a1] st res := by
  refine Met.ofW (cc := cX8_oneEach) (maxL := 4) (ret := none) (by decide) rfl ?_
  intro p e s m args below meth c s₁ B hml hv
  obtain ⟨rfl, hsz, hP, hK, hSt⟩ := hv
  have hts := atoms_spec (ws := wsU yX8_oneEach cX8_oneEach 4 none) B.pre
  have C : Cx p s m _ meth c cX8_oneEach 4 wsL_law RX8 none D G ad := ⟨B.exec, B.bytes, hml, findClass_of_methodNamed B.named, fun w h => hts w (List.mem_cons_of_mem _ h), B.returns, B.notSynchronized, hK, had, hSt⟩
  subst hsz
  have hl := lv_entry ([.ref (ad b), .int a1]) (n := 4) (Nat.le_of_ble_eq_true rfl)
  rw [lg_entry_eq]
  generalize (lg_sl ([.ref (ad b), .int a1]) ++ List.replicate (4 - (lg_sl ([.ref (ad b), .int a1])).length) Slot.unset).toArray = ls at hl ⊢
  exact wX8_oneEach_s0 C n b a1 ib  st res hf s.heap [] ls (lv_sub hl [0, 1] rfl) hP va_S.rf
section
variable {p : Program} {l : Launch} {e : Env} {s : State} {m : MethodId} {args : Array Value} {below : List Frame} {meth : Method} {c : Code} {D : va_G} {G : G3} {ad : Nat → Nat}
def fX8_byParts_s67 (n : Nat)  (b : Nat)  (st : St) : Option (Unit × St) := some ((), st)
set_option maxHeartbeats 4000000 in
set_option maxRecDepth 100000 in
theorem wX8_byParts_s67 (C : Cx p s m args meth c cX8_byParts 6 wsL_law RX8 none D G ad) (n : Nat)  (b : Nat)  (ib : isSh b)  (st : St) (res : (Unit × St))  (hf : fX8_byParts_s67 n  b  st = some res) : At p l e (rmK 1) s m args below meth c D G ad (MQV D G ad below args s res) 6 st [] 67 [] := by
  obtain ⟨hx, hb, hml, hown, hts, hr, hlk, hK, had, hSt⟩ := id C
  intro H locs ls hl hP hS
  unfold fX8_byParts_s67 at hf
  exact g_vret hx hb hr hlk hP hS dX8_byParts_67 hf
def fX8_byParts_s61 (n : Nat)  (b : Nat) (v4 : Int32) (st : St) : Option (Unit × St) := (fX8_oneEach n b v4 st).bind (fun q => fX8_byParts_s67 n b q.2)
set_option maxHeartbeats 4000000 in
set_option maxRecDepth 100000 in
theorem wX8_byParts_s61 (C : Cx p s m args meth c cX8_byParts 6 wsL_law RX8 none D G ad) (n : Nat)  (b : Nat) (v4 : Int32) (ib : isSh b)  (st : St) (res : (Unit × St))  (hf : fX8_byParts_s61 n  b v4 st = some res) : At p l e (rmK 1) s m args below meth c D G ad (MQV D G ad below args s res) 6 st [(0, .ref (ad b)), (4, .int v4)] 61 [] := by
  obtain ⟨hx, hb, hml, hown, hts, hr, hlk, hK, had, hSt⟩ := id C
  intro H locs ls hl hP hS
  unfold fX8_byParts_s61 at hf
  refine lv_aload_n hx hb dX8_byParts_61 rfl (lv_at hl 0 rfl) ?_
  refine lv_iload hx hb dX8_byParts_62 (lv_at hl 1 rfl) ?_
  obtain ⟨q, hq, hf⟩ := bd hf
  refine gcV_v (k := 0) (o := b) (As := [.int v4]) (rest := []) hx hb hml hown hts hK hSt hP hS hl.1 (goodV wm_19_18 wm_19_19 wm_19_20 wm_2_3 wm_19_21) okX8_oneEach (sh_0 ib) rfl rfl (Nat.le_of_ble_eq_true rfl) (Nat.le_of_ble_eq_true rfl) rfl rfl (Nat.le_of_ble_eq_true rfl) dX8_byParts_64 (kX8_oneEach l D G ad had n b ib v4 st q hq) (fun H locs hP hS => ?_)
  exact wX8_byParts_s67 C n b ib q.2 res hf H locs ls (lv_sub hl [] rfl) hP hS
def fX8_byParts_s43 (n : Nat) (K13 : Int32 → Int64 → Int32 → Int32 → St → Option (Unit × St)) (b : Nat) (v1 : Int32) (v2 : Int64) (v4 : Int32) (v5 : Int32) (st : St) : Option (Unit × St) := if inb v5 8 = true then (K13 v1 v2 (v4 - (st.1 (b + 2) v5.toNatClampNeg)) (v5 + 1) st) else none
set_option maxHeartbeats 4000000 in
set_option maxRecDepth 100000 in
theorem wX8_byParts_s43 (C : Cx p s m args meth c cX8_byParts 6 wsL_law RX8 none D G ad) (n : Nat) (K13 : Int32 → Int64 → Int32 → Int32 → St → Option (Unit × St)) (b : Nat) (v1 : Int32) (v2 : Int64) (v4 : Int32) (v5 : Int32) (ib : isSh b)  (st : St) (res : (Unit × St)) (hK13 : ∀ (v1 : Int32) (v2 : Int64) (v4 : Int32) (v5 : Int32) (st : St), K13 v1 v2 v4 v5 st = some res → At p l e (rmK 1) s m args below meth c D G ad (MQV D G ad below args s res) 6 st [(0, .ref (ad b)), (1, .int v1), (2, .long v2), (4, .int v4), (5, .int v5)] 13 []) (hf : fX8_byParts_s43 n K13 b v1 v2 v4 v5 st = some res) : At p l e (rmK 1) s m args below meth c D G ad (MQV D G ad below args s res) 6 st [(0, .ref (ad b)), (1, .int v1), (2, .long v2), (4, .int v4), (5, .int v5)] 43 [] := by
  obtain ⟨hx, hb, hml, hown, hts, hr, hlk, hK, had, hSt⟩ := id C
  intro H locs ls hl hP hS
  unfold fX8_byParts_s43 at hf
  refine lv_iload hx hb dX8_byParts_43 (lv_at hl 3 rfl) ?_
  refine lv_aload_n hx hb dX8_byParts_45 rfl (lv_at hl 0 rfl) ?_
  refine g_getR hx hb hts inlX8 hown hK hP b (sh_0 ib) rfl 1 (by decide) (hts _ wm_4_15) rfl dX8_byParts_46 ?_
  refine lv_iload hx hb dX8_byParts_49 (lv_at hl 4 rfl) ?_
  obtain ⟨g1, hf⟩ := gd hf
  refine g_iald hx hb hK hP (b + 2) (sh_2 ib) g1 dX8_byParts_51 ?_
  refine lv_isub hx hb dX8_byParts_52 ?_
  refine lv_istore (lv' := [(4, .int (v4 - (st.1 (b + 2) v5.toNatClampNeg))), (0, .ref (ad b)), (1, .int v1), (2, .long v2), (5, .int v5)]) hx hb dX8_byParts_53 hl (by decide) rfl (fun ls hl => ?_)
  refine lv_iinc (v := v5 + 1) (lv' := [(5, .int (v5 + 1)), (4, .int (v4 - (st.1 (b + 2) v5.toNatClampNeg))), (0, .ref (ad b)), (1, .int v1), (2, .long v2)]) hx hb dX8_byParts_55 hl (k := 4) rfl rfl (by decide) rfl (fun ls hl => ?_)
  refine lv_goto (tgt := 13) hx hb dX8_byParts_58 (by decide) ?_
  exact hK13 v1 v2 (v4 - (st.1 (b + 2) v5.toNatClampNeg)) (v5 + 1)  st hf H locs ls (lv_sub hl [2, 3, 4, 1, 0] rfl) hP hS
def fX8_byParts_s22 (n : Nat) (K13 : Int32 → Int64 → Int32 → Int32 → St → Option (Unit × St)) (b : Nat) (v1 : Int32) (v2 : Int64) (v4 : Int32) (v5 : Int32) (st : St) : Option (Unit × St) := if inb v5 8 = true then (if v2 = 0 then none else (if inb v5 8 = true then (fX8_byParts_s43 n K13 b v1 v2 v4 v5 (setI st (b + 2) v5.toNatClampNeg (((v1.toInt64 * ((st.1 (b + 1) v5.toNatClampNeg).toInt64)) / v2).toInt32))) else none)) else none
set_option maxHeartbeats 4000000 in
set_option maxRecDepth 100000 in
theorem wX8_byParts_s22 (C : Cx p s m args meth c cX8_byParts 6 wsL_law RX8 none D G ad) (n : Nat) (K13 : Int32 → Int64 → Int32 → Int32 → St → Option (Unit × St)) (b : Nat) (v1 : Int32) (v2 : Int64) (v4 : Int32) (v5 : Int32) (ib : isSh b)  (st : St) (res : (Unit × St)) (hK13 : ∀ (v1 : Int32) (v2 : Int64) (v4 : Int32) (v5 : Int32) (st : St), K13 v1 v2 v4 v5 st = some res → At p l e (rmK 1) s m args below meth c D G ad (MQV D G ad below args s res) 6 st [(0, .ref (ad b)), (1, .int v1), (2, .long v2), (4, .int v4), (5, .int v5)] 13 []) (hf : fX8_byParts_s22 n K13 b v1 v2 v4 v5 st = some res) : At p l e (rmK 1) s m args below meth c D G ad (MQV D G ad below args s res) 6 st [(0, .ref (ad b)), (1, .int v1), (2, .long v2), (4, .int v4), (5, .int v5)] 22 [] := by
  obtain ⟨hx, hb, hml, hown, hts, hr, hlk, hK, had, hSt⟩ := id C
  intro H locs ls hl hP hS
  unfold fX8_byParts_s22 at hf
  refine lv_aload_n hx hb dX8_byParts_22 rfl (lv_at hl 0 rfl) ?_
  refine g_getR hx hb hts inlX8 hown hK hP b (sh_0 ib) rfl 1 (by decide) (hts _ wm_4_15) rfl dX8_byParts_23 ?_
  refine lv_iload hx hb dX8_byParts_26 (lv_at hl 4 rfl) ?_
  refine lv_iload_n hx hb dX8_byParts_28 rfl (lv_at hl 1 rfl) ?_
  refine lv_i2l hx hb dX8_byParts_29 rfl ?_
  refine lv_aload_n hx hb dX8_byParts_30 rfl (lv_at hl 0 rfl) ?_
  refine g_getR hx hb hts inlX8 hown hK hP b (sh_0 ib) rfl 0 (by decide) (hts _ wm_4_14) rfl dX8_byParts_31 ?_
  refine lv_iload hx hb dX8_byParts_34 (lv_at hl 4 rfl) ?_
  obtain ⟨g1, hf⟩ := gd hf
  refine g_iald hx hb hK hP (b + 1) (sh_1 ib) g1 dX8_byParts_36 ?_
  refine lv_i2l hx hb dX8_byParts_37 rfl ?_
  refine lv_lmul hx hb dX8_byParts_38 ?_
  refine lv_lload_n hx hb dX8_byParts_39 rfl (lv_at hl 2 rfl) ?_
  obtain ⟨g2, hf⟩ := gn hf
  refine lv_ldiv hx hb dX8_byParts_40 g2 ?_
  refine lv_l2i hx hb dX8_byParts_41 rfl ?_
  obtain ⟨g3, hf⟩ := gd hf
  refine g_iast hx hb hK had hP hS (b + 2) (sh_2 ib) g3 dX8_byParts_42 (fun H locs hP hS => ?_)
  exact wX8_byParts_s43 C n K13 b v1 v2 v4 v5 ib (setI st (b + 2) v5.toNatClampNeg (((v1.toInt64 * ((st.1 (b + 1) v5.toNatClampNeg).toInt64)) / v2).toInt32)) res hK13 hf H locs ls (lv_sub hl [0, 1, 2, 3, 4] rfl) hP hS
def fX8_byParts_s13 (n : Nat) (K13 : Int32 → Int64 → Int32 → Int32 → St → Option (Unit × St)) (b : Nat) (v1 : Int32) (v2 : Int64) (v4 : Int32) (v5 : Int32) (st : St) : Option (Unit × St) := if (st.1 b 2) ≤ v5 then fX8_byParts_s61 n b v4 st else fX8_byParts_s22 n K13 b v1 v2 v4 v5 st
set_option maxHeartbeats 4000000 in
set_option maxRecDepth 100000 in
theorem wX8_byParts_s13 (C : Cx p s m args meth c cX8_byParts 6 wsL_law RX8 none D G ad) (n : Nat) (K13 : Int32 → Int64 → Int32 → Int32 → St → Option (Unit × St)) (b : Nat) (v1 : Int32) (v2 : Int64) (v4 : Int32) (v5 : Int32) (ib : isSh b)  (st : St) (res : (Unit × St)) (hK13 : ∀ (v1 : Int32) (v2 : Int64) (v4 : Int32) (v5 : Int32) (st : St), K13 v1 v2 v4 v5 st = some res → At p l e (rmK 1) s m args below meth c D G ad (MQV D G ad below args s res) 6 st [(0, .ref (ad b)), (1, .int v1), (2, .long v2), (4, .int v4), (5, .int v5)] 13 []) (hf : fX8_byParts_s13 n K13 b v1 v2 v4 v5 st = some res) : At p l e (rmK 1) s m args below meth c D G ad (MQV D G ad below args s res) 6 st [(0, .ref (ad b)), (1, .int v1), (2, .long v2), (4, .int v4), (5, .int v5)] 13 [] := by
  obtain ⟨hx, hb, hml, hown, hts, hr, hlk, hK, had, hSt⟩ := id C
  intro H locs ls hl hP hS
  unfold fX8_byParts_s13 at hf
  refine lv_iload hx hb dX8_byParts_13 (lv_at hl 4 rfl) ?_
  refine lv_aload_n hx hb dX8_byParts_15 rfl (lv_at hl 0 rfl) ?_
  refine g_getI hx hb hts inlX8 hown hK hP b (sh_0 ib) rfl 2 (by decide) (hts _ wm_19_4) rfl dX8_byParts_16 ?_
  refine lv_icmp_ge (tgt := 61) hx hb dX8_byParts_19 (by decide) (fun q => ?_) (fun q => ?_)
  · exact wX8_byParts_s61 C n b v4 ib st res (it hf q) H locs ls (lv_sub hl [0, 3] rfl) hP hS
  · exact wX8_byParts_s22 C n K13 b v1 v2 v4 v5 ib st res hK13 (ie hf q) H locs ls (lv_sub hl [0, 1, 2, 3, 4] rfl) hP hS
def fX8_byParts_L13 (n : Nat)  (b : Nat) : Nat → Int32 → Int64 → Int32 → Int32 → St → Option (Unit × St)
  | 0, _, _, _, _, _ => none
  | k + 1, v1, v2, v4, v5, st => fX8_byParts_s13 n (fX8_byParts_L13 n b k) b v1 v2 v4 v5 st
theorem wX8_byParts_L13 (C : Cx p s m args meth c cX8_byParts 6 wsL_law RX8 none D G ad) (n : Nat)  (b : Nat) (ib : isSh b) (res : (Unit × St))  : ∀ (k : Nat) (v1 : Int32) (v2 : Int64) (v4 : Int32) (v5 : Int32)  (st : St), fX8_byParts_L13 n b k v1 v2 v4 v5 st = some res → At p l e (rmK 1) s m args below meth c D G ad (MQV D G ad below args s res) 6 st [(0, .ref (ad b)), (1, .int v1), (2, .long v2), (4, .int v4), (5, .int v5)] 13 [] := by
  intro k
  induction k with
  | zero => intro v1 v2 v4 v5  st h; exact absurd h (by intro q; cases q)
  | succ k ih => intro v1 v2 v4 v5  st h; exact wX8_byParts_s13 C n (fX8_byParts_L13 n b k) b v1 v2 v4 v5 ib  st res ih h
def fX8_byParts_s7 (n : Nat)  (b : Nat) (v1 : Int32) (v2 : Int64) (st : St) : Option (Unit × St) := fX8_byParts_L13 n b n v1 v2 v1 0 st
set_option maxHeartbeats 4000000 in
set_option maxRecDepth 100000 in
theorem wX8_byParts_s7 (C : Cx p s m args meth c cX8_byParts 6 wsL_law RX8 none D G ad) (n : Nat)  (b : Nat) (v1 : Int32) (v2 : Int64) (ib : isSh b)  (st : St) (res : (Unit × St))  (hf : fX8_byParts_s7 n  b v1 v2 st = some res) : At p l e (rmK 1) s m args below meth c D G ad (MQV D G ad below args s res) 6 st [(0, .ref (ad b)), (1, .int v1), (2, .long v2)] 7 [] := by
  obtain ⟨hx, hb, hml, hown, hts, hr, hlk, hK, had, hSt⟩ := id C
  intro H locs ls hl hP hS
  unfold fX8_byParts_s7 at hf
  refine lv_iload_n hx hb dX8_byParts_7 rfl (lv_at hl 1 rfl) ?_
  refine lv_istore (lv' := [(4, .int v1), (0, .ref (ad b)), (1, .int v1), (2, .long v2)]) hx hb dX8_byParts_8 hl (by decide) rfl (fun ls hl => ?_)
  refine lv_iconst (v := 0) hx hb dX8_byParts_10 (by decide) ?_
  refine lv_istore (lv' := [(5, .int 0), (4, .int v1), (0, .ref (ad b)), (1, .int v1), (2, .long v2)]) hx hb dX8_byParts_11 hl (by decide) rfl (fun ls hl => ?_)
  exact wX8_byParts_L13 C n b ib res n v1 v2 v1 0 st hf H locs ls (lv_sub hl [2, 3, 4, 1, 0] rfl) hP hS
def fX8_byParts_s6 (n : Nat)  (b : Nat)  (st : St) : Option (Unit × St) := some ((), st)
set_option maxHeartbeats 4000000 in
set_option maxRecDepth 100000 in
theorem wX8_byParts_s6 (C : Cx p s m args meth c cX8_byParts 6 wsL_law RX8 none D G ad) (n : Nat)  (b : Nat)  (ib : isSh b)  (st : St) (res : (Unit × St))  (hf : fX8_byParts_s6 n  b  st = some res) : At p l e (rmK 1) s m args below meth c D G ad (MQV D G ad below args s res) 6 st [] 6 [] := by
  obtain ⟨hx, hb, hml, hown, hts, hr, hlk, hK, had, hSt⟩ := id C
  intro H locs ls hl hP hS
  unfold fX8_byParts_s6 at hf
  exact g_vret hx hb hr hlk hP hS dX8_byParts_6 hf
def fX8_byParts_s0 (n : Nat)  (b : Nat) (v1 : Int32) (v2 : Int64) (st : St) : Option (Unit × St) := if 0 < v2 then fX8_byParts_s7 n b v1 v2 st else fX8_byParts_s6 n b st
set_option maxHeartbeats 4000000 in
set_option maxRecDepth 100000 in
theorem wX8_byParts_s0 (C : Cx p s m args meth c cX8_byParts 6 wsL_law RX8 none D G ad) (n : Nat)  (b : Nat) (v1 : Int32) (v2 : Int64) (ib : isSh b)  (st : St) (res : (Unit × St))  (hf : fX8_byParts_s0 n  b v1 v2 st = some res) : At p l e (rmK 1) s m args below meth c D G ad (MQV D G ad below args s res) 6 st [(0, .ref (ad b)), (1, .int v1), (2, .long v2)] 0 [] := by
  obtain ⟨hx, hb, hml, hown, hts, hr, hlk, hK, had, hSt⟩ := id C
  intro H locs ls hl hP hS
  unfold fX8_byParts_s0 at hf
  refine lv_lload_n hx hb dX8_byParts_0 rfl (lv_at hl 2 rfl) ?_
  refine lv_lconst (v := 0) hx hb dX8_byParts_1 (by decide) ?_
  refine g_lcmp_gt (tgt := 7) hx hb dX8_byParts_2 dX8_byParts_3 (by decide) (fun q => ?_) (fun q => ?_)
  · exact wX8_byParts_s7 C n b v1 v2 ib st res (it hf q) H locs ls (lv_sub hl [0, 1, 2] rfl) hP hS
  · exact wX8_byParts_s6 C n b ib st res (ie hf q) H locs ls (lv_sub hl [] rfl) hP hS
def fX8_byParts (n : Nat) (b : Nat) (a1 : Int32) (a2 : Int64) (st : St) : Option (Unit × St) := fX8_byParts_s0 n b a1 a2 st
theorem okX8_byParts : okY yX8_byParts RX8 2 := by unfold okY; decide +kernel
end
set_option maxRecDepth 100000 in
theorem kX8_byParts (l : Launch) (D : va_G) (G : G3) (ad : Nat → Nat) (had : Adr ad) (n : Nat) (b : Nat) (ib : isSh b) (a1 : Int32) (a2 : Int64) (st : St) (res : (Unit × St)) (hf : fX8_byParts n b a1 a2 st = some res) {sz : Nat} : CtV l yX8_byParts (wsU yX8_byParts cX8_byParts 6 none) (rmK 1) D G ad sz [.ref (ad b), .int a1, .long a2] st res := by
  refine Met.ofW (cc := cX8_byParts) (maxL := 6) (ret := none) (by decide) rfl ?_
  intro p e s m args below meth c s₁ B hml hv
  obtain ⟨rfl, hsz, hP, hK, hSt⟩ := hv
  have hts := atoms_spec (ws := wsU yX8_byParts cX8_byParts 6 none) B.pre
  have C : Cx p s m _ meth c cX8_byParts 6 wsL_law RX8 none D G ad := ⟨B.exec, B.bytes, hml, findClass_of_methodNamed B.named, fun w h => hts w (List.mem_cons_of_mem _ h), B.returns, B.notSynchronized, hK, had, hSt⟩
  subst hsz
  have hl := lv_entry ([.ref (ad b), .int a1, .long a2]) (n := 6) (Nat.le_of_ble_eq_true rfl)
  rw [lg_entry_eq]
  generalize (lg_sl ([.ref (ad b), .int a1, .long a2]) ++ List.replicate (6 - (lg_sl ([.ref (ad b), .int a1, .long a2])).length) Slot.unset).toArray = ls at hl ⊢
  exact wX8_byParts_s0 C n b a1 a2 ib  st res hf s.heap [] ls (lv_sub hl [0, 1, 2] rfl) hP va_S.rf
section
variable {p : Program} {l : Launch} {e : Env} {s : State} {m : MethodId} {args : Array Value} {below : List Frame} {meth : Method} {c : Code} {D : va_G} {G : G3} {ad : Nat → Nat}
def fX8_evenly_s170 (n : Nat)  (b : Nat)  (st : St) : Option (Unit × St) := some ((), st)
set_option maxHeartbeats 4000000 in
set_option maxRecDepth 100000 in
theorem wX8_evenly_s170 (C : Cx p s m args meth c cX8_evenly 8 wsL_law RX8 none D G ad) (n : Nat)  (b : Nat)  (ib : isSh b)  (st : St) (res : (Unit × St))  (hf : fX8_evenly_s170 n  b  st = some res) : At p l e (rmK 1) s m args below meth c D G ad (MQV D G ad below args s res) 8 st [] 170 [] := by
  obtain ⟨hx, hb, hml, hown, hts, hr, hlk, hK, had, hSt⟩ := id C
  intro H locs ls hl hP hS
  unfold fX8_evenly_s170 at hf
  exact g_vret hx hb hr hlk hP hS dX8_evenly_170 hf
def fX8_evenly_s100 (n : Nat)  (b : Nat)  (st : St) : Option (Unit × St) := some ((), st)
set_option maxHeartbeats 4000000 in
set_option maxRecDepth 100000 in
theorem wX8_evenly_s100 (C : Cx p s m args meth c cX8_evenly 8 wsL_law RX8 none D G ad) (n : Nat)  (b : Nat)  (ib : isSh b)  (st : St) (res : (Unit × St))  (hf : fX8_evenly_s100 n  b  st = some res) : At p l e (rmK 1) s m args below meth c D G ad (MQV D G ad below args s res) 8 st [] 100 [] := by
  obtain ⟨hx, hb, hml, hown, hts, hr, hlk, hK, had, hSt⟩ := id C
  intro H locs ls hl hP hS
  unfold fX8_evenly_s100 at hf
  exact g_vret hx hb hr hlk hP hS dX8_evenly_100 hf
def fX8_evenly_s95 (n : Nat)  (b : Nat) (v2 : Int32) (st : St) : Option (Unit × St) := (fX8_oneEach n b v2 st).bind (fun q => fX8_evenly_s100 n b q.2)
set_option maxHeartbeats 4000000 in
set_option maxRecDepth 100000 in
theorem wX8_evenly_s95 (C : Cx p s m args meth c cX8_evenly 8 wsL_law RX8 none D G ad) (n : Nat)  (b : Nat) (v2 : Int32) (ib : isSh b)  (st : St) (res : (Unit × St))  (hf : fX8_evenly_s95 n  b v2 st = some res) : At p l e (rmK 1) s m args below meth c D G ad (MQV D G ad below args s res) 8 st [(0, .ref (ad b)), (2, .int v2)] 95 [] := by
  obtain ⟨hx, hb, hml, hown, hts, hr, hlk, hK, had, hSt⟩ := id C
  intro H locs ls hl hP hS
  unfold fX8_evenly_s95 at hf
  refine lv_aload_n hx hb dX8_evenly_95 rfl (lv_at hl 0 rfl) ?_
  refine lv_iload_n hx hb dX8_evenly_96 rfl (lv_at hl 1 rfl) ?_
  obtain ⟨q, hq, hf⟩ := bd hf
  refine gcV_v (k := 0) (o := b) (As := [.int v2]) (rest := []) hx hb hml hown hts hK hSt hP hS hl.1 (goodV wm_19_18 wm_19_19 wm_19_20 wm_2_3 wm_19_21) okX8_oneEach (sh_0 ib) rfl rfl (Nat.le_of_ble_eq_true rfl) (Nat.le_of_ble_eq_true rfl) rfl rfl (Nat.le_of_ble_eq_true rfl) dX8_evenly_97 (kX8_oneEach l D G ad had n b ib v2 st q hq) (fun H locs hP hS => ?_)
  exact wX8_evenly_s100 C n b ib q.2 res hf H locs ls (lv_sub hl [] rfl) hP hS
def fX8_evenly_s164 (n : Nat) (K4 : Int32 → Int32 → St → Option (Unit × St)) (b : Nat) (v2 : Int32) (v3 : Int32) (st : St) : Option (Unit × St) := K4 v2 (v3 + 1) st
set_option maxHeartbeats 4000000 in
set_option maxRecDepth 100000 in
theorem wX8_evenly_s164 (C : Cx p s m args meth c cX8_evenly 8 wsL_law RX8 none D G ad) (n : Nat) (K4 : Int32 → Int32 → St → Option (Unit × St)) (b : Nat) (v2 : Int32) (v3 : Int32) (ib : isSh b)  (st : St) (res : (Unit × St)) (hK4 : ∀ (v2 : Int32) (v3 : Int32) (st : St), K4 v2 v3 st = some res → At p l e (rmK 1) s m args below meth c D G ad (MQV D G ad below args s res) 8 st [(0, .ref (ad b)), (2, .int v2), (3, .int v3)] 4 []) (hf : fX8_evenly_s164 n K4 b v2 v3 st = some res) : At p l e (rmK 1) s m args below meth c D G ad (MQV D G ad below args s res) 8 st [(0, .ref (ad b)), (2, .int v2), (3, .int v3)] 164 [] := by
  obtain ⟨hx, hb, hml, hown, hts, hr, hlk, hK, had, hSt⟩ := id C
  intro H locs ls hl hP hS
  unfold fX8_evenly_s164 at hf
  refine lv_iinc (v := v3 + 1) (lv' := [(3, .int (v3 + 1)), (0, .ref (ad b)), (2, .int v2)]) hx hb dX8_evenly_164 hl (k := 2) rfl rfl (by decide) rfl (fun ls hl => ?_)
  refine lv_goto (tgt := 4) hx hb dX8_evenly_167 (by decide) ?_
  exact hK4 v2 (v3 + 1)  st hf H locs ls (lv_sub hl [1, 2, 0] rfl) hP hS
def fX8_evenly_s158 (n : Nat) (K4 : Int32 → Int32 → St → Option (Unit × St)) (K115 : Int32 → Int32 → Int32 → Int32 → St → Option (Unit × St)) (b : Nat) (v2 : Int32) (v3 : Int32) (v6 : Int32) (v7 : Int32) (st : St) : Option (Unit × St) := K115 v2 v3 v6 (v7 + 1) st
set_option maxHeartbeats 4000000 in
set_option maxRecDepth 100000 in
theorem wX8_evenly_s158 (C : Cx p s m args meth c cX8_evenly 8 wsL_law RX8 none D G ad) (n : Nat) (K4 : Int32 → Int32 → St → Option (Unit × St)) (K115 : Int32 → Int32 → Int32 → Int32 → St → Option (Unit × St)) (b : Nat) (v2 : Int32) (v3 : Int32) (v6 : Int32) (v7 : Int32) (ib : isSh b)  (st : St) (res : (Unit × St)) (hK4 : ∀ (v2 : Int32) (v3 : Int32) (st : St), K4 v2 v3 st = some res → At p l e (rmK 1) s m args below meth c D G ad (MQV D G ad below args s res) 8 st [(0, .ref (ad b)), (2, .int v2), (3, .int v3)] 4 []) (hK115 : ∀ (v2 : Int32) (v3 : Int32) (v6 : Int32) (v7 : Int32) (st : St), K115 v2 v3 v6 v7 st = some res → At p l e (rmK 1) s m args below meth c D G ad (MQV D G ad below args s res) 8 st [(0, .ref (ad b)), (2, .int v2), (3, .int v3), (6, .int v6), (7, .int v7)] 115 []) (hf : fX8_evenly_s158 n K4 K115 b v2 v3 v6 v7 st = some res) : At p l e (rmK 1) s m args below meth c D G ad (MQV D G ad below args s res) 8 st [(0, .ref (ad b)), (2, .int v2), (3, .int v3), (6, .int v6), (7, .int v7)] 158 [] := by
  obtain ⟨hx, hb, hml, hown, hts, hr, hlk, hK, had, hSt⟩ := id C
  intro H locs ls hl hP hS
  unfold fX8_evenly_s158 at hf
  refine lv_iinc (v := v7 + 1) (lv' := [(7, .int (v7 + 1)), (0, .ref (ad b)), (2, .int v2), (3, .int v3), (6, .int v6)]) hx hb dX8_evenly_158 hl (k := 4) rfl rfl (by decide) rfl (fun ls hl => ?_)
  refine lv_goto (tgt := 115) hx hb dX8_evenly_161 (by decide) ?_
  exact hK115 v2 v3 v6 (v7 + 1)  st hf H locs ls (lv_sub hl [1, 2, 3, 4, 0] rfl) hP hS
def fX8_evenly_s153 (n : Nat) (K4 : Int32 → Int32 → St → Option (Unit × St)) (K115 : Int32 → Int32 → Int32 → Int32 → St → Option (Unit × St)) (b : Nat) (v2 : Int32) (v3 : Int32) (v6 : Int32) (v7 : Int32) (st : St) : Option (Unit × St) := fX8_evenly_s158 n K4 K115 b (v2 - v6) v3 v6 v7 st
set_option maxHeartbeats 4000000 in
set_option maxRecDepth 100000 in
theorem wX8_evenly_s153 (C : Cx p s m args meth c cX8_evenly 8 wsL_law RX8 none D G ad) (n : Nat) (K4 : Int32 → Int32 → St → Option (Unit × St)) (K115 : Int32 → Int32 → Int32 → Int32 → St → Option (Unit × St)) (b : Nat) (v2 : Int32) (v3 : Int32) (v6 : Int32) (v7 : Int32) (ib : isSh b)  (st : St) (res : (Unit × St)) (hK4 : ∀ (v2 : Int32) (v3 : Int32) (st : St), K4 v2 v3 st = some res → At p l e (rmK 1) s m args below meth c D G ad (MQV D G ad below args s res) 8 st [(0, .ref (ad b)), (2, .int v2), (3, .int v3)] 4 []) (hK115 : ∀ (v2 : Int32) (v3 : Int32) (v6 : Int32) (v7 : Int32) (st : St), K115 v2 v3 v6 v7 st = some res → At p l e (rmK 1) s m args below meth c D G ad (MQV D G ad below args s res) 8 st [(0, .ref (ad b)), (2, .int v2), (3, .int v3), (6, .int v6), (7, .int v7)] 115 []) (hf : fX8_evenly_s153 n K4 K115 b v2 v3 v6 v7 st = some res) : At p l e (rmK 1) s m args below meth c D G ad (MQV D G ad below args s res) 8 st [(0, .ref (ad b)), (2, .int v2), (3, .int v3), (6, .int v6), (7, .int v7)] 153 [] := by
  obtain ⟨hx, hb, hml, hown, hts, hr, hlk, hK, had, hSt⟩ := id C
  intro H locs ls hl hP hS
  unfold fX8_evenly_s153 at hf
  refine lv_iload_n hx hb dX8_evenly_153 rfl (lv_at hl 1 rfl) ?_
  refine lv_iload hx hb dX8_evenly_154 (lv_at hl 3 rfl) ?_
  refine lv_isub hx hb dX8_evenly_156 ?_
  refine lv_istore_n (lv' := [(2, .int (v2 - v6)), (0, .ref (ad b)), (3, .int v3), (6, .int v6), (7, .int v7)]) hx hb dX8_evenly_157 rfl hl (by decide) rfl (fun ls hl => ?_)
  exact wX8_evenly_s158 C n K4 K115 b (v2 - v6) v3 v6 v7 ib st res hK4 hK115 hf H locs ls (lv_sub hl [1, 0, 2, 3, 4] rfl) hP hS
def fX8_evenly_s141 (n : Nat) (K4 : Int32 → Int32 → St → Option (Unit × St)) (K115 : Int32 → Int32 → Int32 → Int32 → St → Option (Unit × St)) (b : Nat) (v2 : Int32) (v3 : Int32) (v6 : Int32) (v7 : Int32) (st : St) : Option (Unit × St) := if inb v7 8 = true then (if inb v7 8 = true then (fX8_evenly_s153 n K4 K115 b v2 v3 v6 v7 (setI st (b + 2) v7.toNatClampNeg ((st.1 (b + 2) v7.toNatClampNeg) + v6))) else none) else none
set_option maxHeartbeats 4000000 in
set_option maxRecDepth 100000 in
theorem wX8_evenly_s141 (C : Cx p s m args meth c cX8_evenly 8 wsL_law RX8 none D G ad) (n : Nat) (K4 : Int32 → Int32 → St → Option (Unit × St)) (K115 : Int32 → Int32 → Int32 → Int32 → St → Option (Unit × St)) (b : Nat) (v2 : Int32) (v3 : Int32) (v6 : Int32) (v7 : Int32) (ib : isSh b)  (st : St) (res : (Unit × St)) (hK4 : ∀ (v2 : Int32) (v3 : Int32) (st : St), K4 v2 v3 st = some res → At p l e (rmK 1) s m args below meth c D G ad (MQV D G ad below args s res) 8 st [(0, .ref (ad b)), (2, .int v2), (3, .int v3)] 4 []) (hK115 : ∀ (v2 : Int32) (v3 : Int32) (v6 : Int32) (v7 : Int32) (st : St), K115 v2 v3 v6 v7 st = some res → At p l e (rmK 1) s m args below meth c D G ad (MQV D G ad below args s res) 8 st [(0, .ref (ad b)), (2, .int v2), (3, .int v3), (6, .int v6), (7, .int v7)] 115 []) (hf : fX8_evenly_s141 n K4 K115 b v2 v3 v6 v7 st = some res) : At p l e (rmK 1) s m args below meth c D G ad (MQV D G ad below args s res) 8 st [(0, .ref (ad b)), (2, .int v2), (3, .int v3), (6, .int v6), (7, .int v7)] 141 [] := by
  obtain ⟨hx, hb, hml, hown, hts, hr, hlk, hK, had, hSt⟩ := id C
  intro H locs ls hl hP hS
  unfold fX8_evenly_s141 at hf
  refine lv_aload_n hx hb dX8_evenly_141 rfl (lv_at hl 0 rfl) ?_
  refine g_getR hx hb hts inlX8 hown hK hP b (sh_0 ib) rfl 1 (by decide) (hts _ wm_4_15) rfl dX8_evenly_142 ?_
  refine lv_iload hx hb dX8_evenly_145 (lv_at hl 4 rfl) ?_
  refine lv_dup2_11 hx hb dX8_evenly_147 rfl rfl ?_
  obtain ⟨g1, hf⟩ := gd hf
  refine g_iald hx hb hK hP (b + 2) (sh_2 ib) g1 dX8_evenly_148 ?_
  refine lv_iload hx hb dX8_evenly_149 (lv_at hl 3 rfl) ?_
  refine lv_iadd hx hb dX8_evenly_151 ?_
  obtain ⟨g2, hf⟩ := gd hf
  refine g_iast hx hb hK had hP hS (b + 2) (sh_2 ib) g2 dX8_evenly_152 (fun H locs hP hS => ?_)
  exact wX8_evenly_s153 C n K4 K115 b v2 v3 v6 v7 ib (setI st (b + 2) v7.toNatClampNeg ((st.1 (b + 2) v7.toNatClampNeg) + v6)) res hK4 hK115 hf H locs ls (lv_sub hl [0, 1, 2, 3, 4] rfl) hP hS
def fX8_evenly_s124 (n : Nat) (K4 : Int32 → Int32 → St → Option (Unit × St)) (K115 : Int32 → Int32 → Int32 → Int32 → St → Option (Unit × St)) (b : Nat) (v2 : Int32) (v3 : Int32) (v6 : Int32) (v7 : Int32) (st : St) : Option (Unit × St) := if inb v7 8 = true then (if inb v7 8 = true then (if (st.1 (b + 1) v7.toNatClampNeg) ≤ (st.1 (b + 2) v7.toNatClampNeg) then fX8_evenly_s158 n K4 K115 b v2 v3 v6 v7 st else fX8_evenly_s141 n K4 K115 b v2 v3 v6 v7 st) else none) else none
set_option maxHeartbeats 4000000 in
set_option maxRecDepth 100000 in
theorem wX8_evenly_s124 (C : Cx p s m args meth c cX8_evenly 8 wsL_law RX8 none D G ad) (n : Nat) (K4 : Int32 → Int32 → St → Option (Unit × St)) (K115 : Int32 → Int32 → Int32 → Int32 → St → Option (Unit × St)) (b : Nat) (v2 : Int32) (v3 : Int32) (v6 : Int32) (v7 : Int32) (ib : isSh b)  (st : St) (res : (Unit × St)) (hK4 : ∀ (v2 : Int32) (v3 : Int32) (st : St), K4 v2 v3 st = some res → At p l e (rmK 1) s m args below meth c D G ad (MQV D G ad below args s res) 8 st [(0, .ref (ad b)), (2, .int v2), (3, .int v3)] 4 []) (hK115 : ∀ (v2 : Int32) (v3 : Int32) (v6 : Int32) (v7 : Int32) (st : St), K115 v2 v3 v6 v7 st = some res → At p l e (rmK 1) s m args below meth c D G ad (MQV D G ad below args s res) 8 st [(0, .ref (ad b)), (2, .int v2), (3, .int v3), (6, .int v6), (7, .int v7)] 115 []) (hf : fX8_evenly_s124 n K4 K115 b v2 v3 v6 v7 st = some res) : At p l e (rmK 1) s m args below meth c D G ad (MQV D G ad below args s res) 8 st [(0, .ref (ad b)), (2, .int v2), (3, .int v3), (6, .int v6), (7, .int v7)] 124 [] := by
  obtain ⟨hx, hb, hml, hown, hts, hr, hlk, hK, had, hSt⟩ := id C
  intro H locs ls hl hP hS
  unfold fX8_evenly_s124 at hf
  refine lv_aload_n hx hb dX8_evenly_124 rfl (lv_at hl 0 rfl) ?_
  refine g_getR hx hb hts inlX8 hown hK hP b (sh_0 ib) rfl 1 (by decide) (hts _ wm_4_15) rfl dX8_evenly_125 ?_
  refine lv_iload hx hb dX8_evenly_128 (lv_at hl 4 rfl) ?_
  obtain ⟨g1, hf⟩ := gd hf
  refine g_iald hx hb hK hP (b + 2) (sh_2 ib) g1 dX8_evenly_130 ?_
  refine lv_aload_n hx hb dX8_evenly_131 rfl (lv_at hl 0 rfl) ?_
  refine g_getR hx hb hts inlX8 hown hK hP b (sh_0 ib) rfl 0 (by decide) (hts _ wm_4_14) rfl dX8_evenly_132 ?_
  refine lv_iload hx hb dX8_evenly_135 (lv_at hl 4 rfl) ?_
  obtain ⟨g2, hf⟩ := gd hf
  refine g_iald hx hb hK hP (b + 1) (sh_1 ib) g2 dX8_evenly_137 ?_
  refine lv_icmp_ge (tgt := 158) hx hb dX8_evenly_138 (by decide) (fun q => ?_) (fun q => ?_)
  · exact wX8_evenly_s158 C n K4 K115 b v2 v3 v6 v7 ib st res hK4 hK115 (it hf q) H locs ls (lv_sub hl [0, 1, 2, 3, 4] rfl) hP hS
  · exact wX8_evenly_s141 C n K4 K115 b v2 v3 v6 v7 ib st res hK4 hK115 (ie hf q) H locs ls (lv_sub hl [0, 1, 2, 3, 4] rfl) hP hS
def fX8_evenly_s115 (n : Nat) (K4 : Int32 → Int32 → St → Option (Unit × St)) (K115 : Int32 → Int32 → Int32 → Int32 → St → Option (Unit × St)) (b : Nat) (v2 : Int32) (v3 : Int32) (v6 : Int32) (v7 : Int32) (st : St) : Option (Unit × St) := if (st.1 b 2) ≤ v7 then fX8_evenly_s164 n K4 b v2 v3 st else fX8_evenly_s124 n K4 K115 b v2 v3 v6 v7 st
set_option maxHeartbeats 4000000 in
set_option maxRecDepth 100000 in
theorem wX8_evenly_s115 (C : Cx p s m args meth c cX8_evenly 8 wsL_law RX8 none D G ad) (n : Nat) (K4 : Int32 → Int32 → St → Option (Unit × St)) (K115 : Int32 → Int32 → Int32 → Int32 → St → Option (Unit × St)) (b : Nat) (v2 : Int32) (v3 : Int32) (v6 : Int32) (v7 : Int32) (ib : isSh b)  (st : St) (res : (Unit × St)) (hK4 : ∀ (v2 : Int32) (v3 : Int32) (st : St), K4 v2 v3 st = some res → At p l e (rmK 1) s m args below meth c D G ad (MQV D G ad below args s res) 8 st [(0, .ref (ad b)), (2, .int v2), (3, .int v3)] 4 []) (hK115 : ∀ (v2 : Int32) (v3 : Int32) (v6 : Int32) (v7 : Int32) (st : St), K115 v2 v3 v6 v7 st = some res → At p l e (rmK 1) s m args below meth c D G ad (MQV D G ad below args s res) 8 st [(0, .ref (ad b)), (2, .int v2), (3, .int v3), (6, .int v6), (7, .int v7)] 115 []) (hf : fX8_evenly_s115 n K4 K115 b v2 v3 v6 v7 st = some res) : At p l e (rmK 1) s m args below meth c D G ad (MQV D G ad below args s res) 8 st [(0, .ref (ad b)), (2, .int v2), (3, .int v3), (6, .int v6), (7, .int v7)] 115 [] := by
  obtain ⟨hx, hb, hml, hown, hts, hr, hlk, hK, had, hSt⟩ := id C
  intro H locs ls hl hP hS
  unfold fX8_evenly_s115 at hf
  refine lv_iload hx hb dX8_evenly_115 (lv_at hl 4 rfl) ?_
  refine lv_aload_n hx hb dX8_evenly_117 rfl (lv_at hl 0 rfl) ?_
  refine g_getI hx hb hts inlX8 hown hK hP b (sh_0 ib) rfl 2 (by decide) (hts _ wm_19_4) rfl dX8_evenly_118 ?_
  refine lv_icmp_ge (tgt := 164) hx hb dX8_evenly_121 (by decide) (fun q => ?_) (fun q => ?_)
  · exact wX8_evenly_s164 C n K4 b v2 v3 ib st res hK4 (it hf q) H locs ls (lv_sub hl [0, 1, 2] rfl) hP hS
  · exact wX8_evenly_s124 C n K4 K115 b v2 v3 v6 v7 ib st res hK4 hK115 (ie hf q) H locs ls (lv_sub hl [0, 1, 2, 3, 4] rfl) hP hS
def fX8_evenly_L115 (n : Nat) (K4 : Int32 → Int32 → St → Option (Unit × St)) (b : Nat) : Nat → Int32 → Int32 → Int32 → Int32 → St → Option (Unit × St)
  | 0, _, _, _, _, _ => none
  | k + 1, v2, v3, v6, v7, st => fX8_evenly_s115 n K4 (fX8_evenly_L115 n K4 b k) b v2 v3 v6 v7 st
theorem wX8_evenly_L115 (C : Cx p s m args meth c cX8_evenly 8 wsL_law RX8 none D G ad) (n : Nat) (K4 : Int32 → Int32 → St → Option (Unit × St)) (b : Nat) (ib : isSh b) (res : (Unit × St)) (hK4 : ∀ (v2 : Int32) (v3 : Int32) (st : St), K4 v2 v3 st = some res → At p l e (rmK 1) s m args below meth c D G ad (MQV D G ad below args s res) 8 st [(0, .ref (ad b)), (2, .int v2), (3, .int v3)] 4 []) : ∀ (k : Nat) (v2 : Int32) (v3 : Int32) (v6 : Int32) (v7 : Int32)  (st : St), fX8_evenly_L115 n K4 b k v2 v3 v6 v7 st = some res → At p l e (rmK 1) s m args below meth c D G ad (MQV D G ad below args s res) 8 st [(0, .ref (ad b)), (2, .int v2), (3, .int v3), (6, .int v6), (7, .int v7)] 115 [] := by
  intro k
  induction k with
  | zero => intro v2 v3 v6 v7  st h; exact absurd h (by intro q; cases q)
  | succ k ih => intro v2 v3 v6 v7  st h; exact wX8_evenly_s115 C n K4 (fX8_evenly_L115 n K4 b k) b v2 v3 v6 v7 ib  st res hK4 ih h
def fX8_evenly_s101 (n : Nat) (K4 : Int32 → Int32 → St → Option (Unit × St)) (b : Nat) (v2 : Int32) (v3 : Int32) (v4 : Int32) (v5 : Int32) (st : St) : Option (Unit × St) := if v4 = 0 then none else (fX8_evenly_L115 n K4 b n v2 v3 (if (v2 / v4) < v5 then (v2 / v4) else v5) 0 st)
set_option maxHeartbeats 4000000 in
set_option maxRecDepth 100000 in
theorem wX8_evenly_s101 (C : Cx p s m args meth c cX8_evenly 8 wsL_law RX8 none D G ad) (n : Nat) (K4 : Int32 → Int32 → St → Option (Unit × St)) (b : Nat) (v2 : Int32) (v3 : Int32) (v4 : Int32) (v5 : Int32) (ib : isSh b)  (st : St) (res : (Unit × St)) (hK4 : ∀ (v2 : Int32) (v3 : Int32) (st : St), K4 v2 v3 st = some res → At p l e (rmK 1) s m args below meth c D G ad (MQV D G ad below args s res) 8 st [(0, .ref (ad b)), (2, .int v2), (3, .int v3)] 4 []) (hf : fX8_evenly_s101 n K4 b v2 v3 v4 v5 st = some res) : At p l e (rmK 1) s m args below meth c D G ad (MQV D G ad below args s res) 8 st [(0, .ref (ad b)), (2, .int v2), (3, .int v3), (4, .int v4), (5, .int v5)] 101 [] := by
  obtain ⟨hx, hb, hml, hown, hts, hr, hlk, hK, had, hSt⟩ := id C
  intro H locs ls hl hP hS
  unfold fX8_evenly_s101 at hf
  refine lv_iload hx hb dX8_evenly_101 (lv_at hl 4 rfl) ?_
  refine lv_iload_n hx hb dX8_evenly_103 rfl (lv_at hl 1 rfl) ?_
  refine lv_iload hx hb dX8_evenly_104 (lv_at hl 3 rfl) ?_
  obtain ⟨g1, hf⟩ := gn hf
  refine lv_idiv hx hb dX8_evenly_106 g1 ?_
  refine va_mmin hx hb (hml.trans hl.1.symm) hown (hts _ wm_19_13) (hts _ wm_18_19) (hts _ wm_18_20) (hts _ wm_18_21) (Nat.le_of_ble_eq_true rfl) (Nat.le_of_ble_eq_true rfl) (Nat.zero_le _) (Nat.zero_le _) dX8_evenly_107 ?_
  refine lv_istore (lv' := [(6, .int (if (v2 / v4) < v5 then (v2 / v4) else v5)), (0, .ref (ad b)), (2, .int v2), (3, .int v3), (4, .int v4), (5, .int v5)]) hx hb dX8_evenly_110 hl (by decide) rfl (fun ls hl => ?_)
  refine lv_iconst (v := 0) hx hb dX8_evenly_112 (by decide) ?_
  refine lv_istore (lv' := [(7, .int 0), (6, .int (if (v2 / v4) < v5 then (v2 / v4) else v5)), (0, .ref (ad b)), (2, .int v2), (3, .int v3), (4, .int v4), (5, .int v5)]) hx hb dX8_evenly_113 hl (by decide) rfl (fun ls hl => ?_)
  exact wX8_evenly_L115 C n K4 b ib res hK4 n v2 v3 (if (v2 / v4) < v5 then (v2 / v4) else v5) 0 st hf H locs ls (lv_sub hl [2, 3, 4, 1, 0] rfl) hP hS
def fX8_evenly_s89 (n : Nat) (K4 : Int32 → Int32 → St → Option (Unit × St)) (b : Nat) (v2 : Int32) (v3 : Int32) (v4 : Int32) (v5 : Int32) (st : St) : Option (Unit × St) := if v4 ≤ v2 then fX8_evenly_s101 n K4 b v2 v3 v4 v5 st else fX8_evenly_s95 n b v2 st
set_option maxHeartbeats 4000000 in
set_option maxRecDepth 100000 in
theorem wX8_evenly_s89 (C : Cx p s m args meth c cX8_evenly 8 wsL_law RX8 none D G ad) (n : Nat) (K4 : Int32 → Int32 → St → Option (Unit × St)) (b : Nat) (v2 : Int32) (v3 : Int32) (v4 : Int32) (v5 : Int32) (ib : isSh b)  (st : St) (res : (Unit × St)) (hK4 : ∀ (v2 : Int32) (v3 : Int32) (st : St), K4 v2 v3 st = some res → At p l e (rmK 1) s m args below meth c D G ad (MQV D G ad below args s res) 8 st [(0, .ref (ad b)), (2, .int v2), (3, .int v3)] 4 []) (hf : fX8_evenly_s89 n K4 b v2 v3 v4 v5 st = some res) : At p l e (rmK 1) s m args below meth c D G ad (MQV D G ad below args s res) 8 st [(0, .ref (ad b)), (2, .int v2), (3, .int v3), (4, .int v4), (5, .int v5)] 89 [] := by
  obtain ⟨hx, hb, hml, hown, hts, hr, hlk, hK, had, hSt⟩ := id C
  intro H locs ls hl hP hS
  unfold fX8_evenly_s89 at hf
  refine lv_iload_n hx hb dX8_evenly_89 rfl (lv_at hl 1 rfl) ?_
  refine lv_iload hx hb dX8_evenly_90 (lv_at hl 3 rfl) ?_
  refine lv_icmp_ge (tgt := 101) hx hb dX8_evenly_92 (by decide) (fun q => ?_) (fun q => ?_)
  · exact wX8_evenly_s101 C n K4 b v2 v3 v4 v5 ib st res hK4 (it hf q) H locs ls (lv_sub hl [0, 1, 2, 3, 4] rfl) hP hS
  · exact wX8_evenly_s95 C n b v2 ib st res (ie hf q) H locs ls (lv_sub hl [0, 1] rfl) hP hS
def fX8_evenly_s84 (n : Nat) (K4 : Int32 → Int32 → St → Option (Unit × St)) (b : Nat) (v2 : Int32) (v3 : Int32) (v4 : Int32) (v5 : Int32) (st : St) : Option (Unit × St) := if v4 = 0 then fX8_evenly_s95 n b v2 st else fX8_evenly_s89 n K4 b v2 v3 v4 v5 st
set_option maxHeartbeats 4000000 in
set_option maxRecDepth 100000 in
theorem wX8_evenly_s84 (C : Cx p s m args meth c cX8_evenly 8 wsL_law RX8 none D G ad) (n : Nat) (K4 : Int32 → Int32 → St → Option (Unit × St)) (b : Nat) (v2 : Int32) (v3 : Int32) (v4 : Int32) (v5 : Int32) (ib : isSh b)  (st : St) (res : (Unit × St)) (hK4 : ∀ (v2 : Int32) (v3 : Int32) (st : St), K4 v2 v3 st = some res → At p l e (rmK 1) s m args below meth c D G ad (MQV D G ad below args s res) 8 st [(0, .ref (ad b)), (2, .int v2), (3, .int v3)] 4 []) (hf : fX8_evenly_s84 n K4 b v2 v3 v4 v5 st = some res) : At p l e (rmK 1) s m args below meth c D G ad (MQV D G ad below args s res) 8 st [(0, .ref (ad b)), (2, .int v2), (3, .int v3), (4, .int v4), (5, .int v5)] 84 [] := by
  obtain ⟨hx, hb, hml, hown, hts, hr, hlk, hK, had, hSt⟩ := id C
  intro H locs ls hl hP hS
  unfold fX8_evenly_s84 at hf
  refine lv_iload hx hb dX8_evenly_84 (lv_at hl 3 rfl) ?_
  refine lv_if_eq (tgt := 95) hx hb dX8_evenly_86 (by decide) (fun q => ?_) (fun q => ?_)
  · exact wX8_evenly_s95 C n b v2 ib st res (it hf q) H locs ls (lv_sub hl [0, 1] rfl) hP hS
  · exact wX8_evenly_s89 C n K4 b v2 v3 v4 v5 ib st res hK4 (ie hf q) H locs ls (lv_sub hl [0, 1, 2, 3, 4] rfl) hP hS
def fX8_evenly_s78 (n : Nat) (K4 : Int32 → Int32 → St → Option (Unit × St)) (K27 : Int32 → Int32 → Int32 → Int32 → Int32 → St → Option (Unit × St)) (b : Nat) (v2 : Int32) (v3 : Int32) (v4 : Int32) (v5 : Int32) (v6 : Int32) (st : St) : Option (Unit × St) := K27 v2 v3 v4 v5 (v6 + 1) st
set_option maxHeartbeats 4000000 in
set_option maxRecDepth 100000 in
theorem wX8_evenly_s78 (C : Cx p s m args meth c cX8_evenly 8 wsL_law RX8 none D G ad) (n : Nat) (K4 : Int32 → Int32 → St → Option (Unit × St)) (K27 : Int32 → Int32 → Int32 → Int32 → Int32 → St → Option (Unit × St)) (b : Nat) (v2 : Int32) (v3 : Int32) (v4 : Int32) (v5 : Int32) (v6 : Int32) (ib : isSh b)  (st : St) (res : (Unit × St)) (hK4 : ∀ (v2 : Int32) (v3 : Int32) (st : St), K4 v2 v3 st = some res → At p l e (rmK 1) s m args below meth c D G ad (MQV D G ad below args s res) 8 st [(0, .ref (ad b)), (2, .int v2), (3, .int v3)] 4 []) (hK27 : ∀ (v2 : Int32) (v3 : Int32) (v4 : Int32) (v5 : Int32) (v6 : Int32) (st : St), K27 v2 v3 v4 v5 v6 st = some res → At p l e (rmK 1) s m args below meth c D G ad (MQV D G ad below args s res) 8 st [(0, .ref (ad b)), (2, .int v2), (3, .int v3), (4, .int v4), (5, .int v5), (6, .int v6)] 27 []) (hf : fX8_evenly_s78 n K4 K27 b v2 v3 v4 v5 v6 st = some res) : At p l e (rmK 1) s m args below meth c D G ad (MQV D G ad below args s res) 8 st [(0, .ref (ad b)), (2, .int v2), (3, .int v3), (4, .int v4), (5, .int v5), (6, .int v6)] 78 [] := by
  obtain ⟨hx, hb, hml, hown, hts, hr, hlk, hK, had, hSt⟩ := id C
  intro H locs ls hl hP hS
  unfold fX8_evenly_s78 at hf
  refine lv_iinc (v := v6 + 1) (lv' := [(6, .int (v6 + 1)), (0, .ref (ad b)), (2, .int v2), (3, .int v3), (4, .int v4), (5, .int v5)]) hx hb dX8_evenly_78 hl (k := 5) rfl rfl (by decide) rfl (fun ls hl => ?_)
  refine lv_goto (tgt := 27) hx hb dX8_evenly_81 (by decide) ?_
  exact hK27 v2 v3 v4 v5 (v6 + 1)  st hf H locs ls (lv_sub hl [1, 2, 3, 4, 5, 0] rfl) hP hS
def fX8_evenly_s53 (n : Nat) (K4 : Int32 → Int32 → St → Option (Unit × St)) (K27 : Int32 → Int32 → Int32 → Int32 → Int32 → St → Option (Unit × St)) (b : Nat) (v2 : Int32) (v3 : Int32) (v4 : Int32) (v5 : Int32) (v6 : Int32) (st : St) : Option (Unit × St) := if inb v6 8 = true then (if inb v6 8 = true then (fX8_evenly_s78 n K4 K27 b v2 v3 (v4 + 1) (if ((st.1 (b + 1) v6.toNatClampNeg) - (st.1 (b + 2) v6.toNatClampNeg)) < v5 then ((st.1 (b + 1) v6.toNatClampNeg) - (st.1 (b + 2) v6.toNatClampNeg)) else v5) v6 st) else none) else none
set_option maxHeartbeats 4000000 in
set_option maxRecDepth 100000 in
theorem wX8_evenly_s53 (C : Cx p s m args meth c cX8_evenly 8 wsL_law RX8 none D G ad) (n : Nat) (K4 : Int32 → Int32 → St → Option (Unit × St)) (K27 : Int32 → Int32 → Int32 → Int32 → Int32 → St → Option (Unit × St)) (b : Nat) (v2 : Int32) (v3 : Int32) (v4 : Int32) (v5 : Int32) (v6 : Int32) (ib : isSh b)  (st : St) (res : (Unit × St)) (hK4 : ∀ (v2 : Int32) (v3 : Int32) (st : St), K4 v2 v3 st = some res → At p l e (rmK 1) s m args below meth c D G ad (MQV D G ad below args s res) 8 st [(0, .ref (ad b)), (2, .int v2), (3, .int v3)] 4 []) (hK27 : ∀ (v2 : Int32) (v3 : Int32) (v4 : Int32) (v5 : Int32) (v6 : Int32) (st : St), K27 v2 v3 v4 v5 v6 st = some res → At p l e (rmK 1) s m args below meth c D G ad (MQV D G ad below args s res) 8 st [(0, .ref (ad b)), (2, .int v2), (3, .int v3), (4, .int v4), (5, .int v5), (6, .int v6)] 27 []) (hf : fX8_evenly_s53 n K4 K27 b v2 v3 v4 v5 v6 st = some res) : At p l e (rmK 1) s m args below meth c D G ad (MQV D G ad below args s res) 8 st [(0, .ref (ad b)), (2, .int v2), (3, .int v3), (4, .int v4), (5, .int v5), (6, .int v6)] 53 [] := by
  obtain ⟨hx, hb, hml, hown, hts, hr, hlk, hK, had, hSt⟩ := id C
  intro H locs ls hl hP hS
  unfold fX8_evenly_s53 at hf
  refine lv_iinc (v := v4 + 1) (lv' := [(4, .int (v4 + 1)), (0, .ref (ad b)), (2, .int v2), (3, .int v3), (5, .int v5), (6, .int v6)]) hx hb dX8_evenly_53 hl (k := 3) rfl rfl (by decide) rfl (fun ls hl => ?_)
  refine lv_iload hx hb dX8_evenly_56 (lv_at hl 4 rfl) ?_
  refine lv_aload_n hx hb dX8_evenly_58 rfl (lv_at hl 1 rfl) ?_
  refine g_getR hx hb hts inlX8 hown hK hP b (sh_0 ib) rfl 0 (by decide) (hts _ wm_4_14) rfl dX8_evenly_59 ?_
  refine lv_iload hx hb dX8_evenly_62 (lv_at hl 5 rfl) ?_
  obtain ⟨g1, hf⟩ := gd hf
  refine g_iald hx hb hK hP (b + 1) (sh_1 ib) g1 dX8_evenly_64 ?_
  refine lv_aload_n hx hb dX8_evenly_65 rfl (lv_at hl 1 rfl) ?_
  refine g_getR hx hb hts inlX8 hown hK hP b (sh_0 ib) rfl 1 (by decide) (hts _ wm_4_15) rfl dX8_evenly_66 ?_
  refine lv_iload hx hb dX8_evenly_69 (lv_at hl 5 rfl) ?_
  obtain ⟨g2, hf⟩ := gd hf
  refine g_iald hx hb hK hP (b + 2) (sh_2 ib) g2 dX8_evenly_71 ?_
  refine lv_isub hx hb dX8_evenly_72 ?_
  refine va_mmin hx hb (hml.trans hl.1.symm) hown (hts _ wm_19_13) (hts _ wm_18_19) (hts _ wm_18_20) (hts _ wm_18_21) (Nat.le_of_ble_eq_true rfl) (Nat.le_of_ble_eq_true rfl) (Nat.zero_le _) (Nat.zero_le _) dX8_evenly_73 ?_
  refine lv_istore (lv' := [(5, .int (if ((st.1 (b + 1) v6.toNatClampNeg) - (st.1 (b + 2) v6.toNatClampNeg)) < v5 then ((st.1 (b + 1) v6.toNatClampNeg) - (st.1 (b + 2) v6.toNatClampNeg)) else v5)), (4, .int (v4 + 1)), (0, .ref (ad b)), (2, .int v2), (3, .int v3), (6, .int v6)]) hx hb dX8_evenly_76 hl (by decide) rfl (fun ls hl => ?_)
  exact wX8_evenly_s78 C n K4 K27 b v2 v3 (v4 + 1) (if ((st.1 (b + 1) v6.toNatClampNeg) - (st.1 (b + 2) v6.toNatClampNeg)) < v5 then ((st.1 (b + 1) v6.toNatClampNeg) - (st.1 (b + 2) v6.toNatClampNeg)) else v5) v6 ib st res hK4 hK27 hf H locs ls (lv_sub hl [2, 3, 4, 1, 0, 5] rfl) hP hS
def fX8_evenly_s36 (n : Nat) (K4 : Int32 → Int32 → St → Option (Unit × St)) (K27 : Int32 → Int32 → Int32 → Int32 → Int32 → St → Option (Unit × St)) (b : Nat) (v2 : Int32) (v3 : Int32) (v4 : Int32) (v5 : Int32) (v6 : Int32) (st : St) : Option (Unit × St) := if inb v6 8 = true then (if inb v6 8 = true then (if (st.1 (b + 1) v6.toNatClampNeg) ≤ (st.1 (b + 2) v6.toNatClampNeg) then fX8_evenly_s78 n K4 K27 b v2 v3 v4 v5 v6 st else fX8_evenly_s53 n K4 K27 b v2 v3 v4 v5 v6 st) else none) else none
set_option maxHeartbeats 4000000 in
set_option maxRecDepth 100000 in
theorem wX8_evenly_s36 (C : Cx p s m args meth c cX8_evenly 8 wsL_law RX8 none D G ad) (n : Nat) (K4 : Int32 → Int32 → St → Option (Unit × St)) (K27 : Int32 → Int32 → Int32 → Int32 → Int32 → St → Option (Unit × St)) (b : Nat) (v2 : Int32) (v3 : Int32) (v4 : Int32) (v5 : Int32) (v6 : Int32) (ib : isSh b)  (st : St) (res : (Unit × St)) (hK4 : ∀ (v2 : Int32) (v3 : Int32) (st : St), K4 v2 v3 st = some res → At p l e (rmK 1) s m args below meth c D G ad (MQV D G ad below args s res) 8 st [(0, .ref (ad b)), (2, .int v2), (3, .int v3)] 4 []) (hK27 : ∀ (v2 : Int32) (v3 : Int32) (v4 : Int32) (v5 : Int32) (v6 : Int32) (st : St), K27 v2 v3 v4 v5 v6 st = some res → At p l e (rmK 1) s m args below meth c D G ad (MQV D G ad below args s res) 8 st [(0, .ref (ad b)), (2, .int v2), (3, .int v3), (4, .int v4), (5, .int v5), (6, .int v6)] 27 []) (hf : fX8_evenly_s36 n K4 K27 b v2 v3 v4 v5 v6 st = some res) : At p l e (rmK 1) s m args below meth c D G ad (MQV D G ad below args s res) 8 st [(0, .ref (ad b)), (2, .int v2), (3, .int v3), (4, .int v4), (5, .int v5), (6, .int v6)] 36 [] := by
  obtain ⟨hx, hb, hml, hown, hts, hr, hlk, hK, had, hSt⟩ := id C
  intro H locs ls hl hP hS
  unfold fX8_evenly_s36 at hf
  refine lv_aload_n hx hb dX8_evenly_36 rfl (lv_at hl 0 rfl) ?_
  refine g_getR hx hb hts inlX8 hown hK hP b (sh_0 ib) rfl 1 (by decide) (hts _ wm_4_15) rfl dX8_evenly_37 ?_
  refine lv_iload hx hb dX8_evenly_40 (lv_at hl 5 rfl) ?_
  obtain ⟨g1, hf⟩ := gd hf
  refine g_iald hx hb hK hP (b + 2) (sh_2 ib) g1 dX8_evenly_42 ?_
  refine lv_aload_n hx hb dX8_evenly_43 rfl (lv_at hl 0 rfl) ?_
  refine g_getR hx hb hts inlX8 hown hK hP b (sh_0 ib) rfl 0 (by decide) (hts _ wm_4_14) rfl dX8_evenly_44 ?_
  refine lv_iload hx hb dX8_evenly_47 (lv_at hl 5 rfl) ?_
  obtain ⟨g2, hf⟩ := gd hf
  refine g_iald hx hb hK hP (b + 1) (sh_1 ib) g2 dX8_evenly_49 ?_
  refine lv_icmp_ge (tgt := 78) hx hb dX8_evenly_50 (by decide) (fun q => ?_) (fun q => ?_)
  · exact wX8_evenly_s78 C n K4 K27 b v2 v3 v4 v5 v6 ib st res hK4 hK27 (it hf q) H locs ls (lv_sub hl [0, 1, 2, 3, 4, 5] rfl) hP hS
  · exact wX8_evenly_s53 C n K4 K27 b v2 v3 v4 v5 v6 ib st res hK4 hK27 (ie hf q) H locs ls (lv_sub hl [0, 1, 2, 3, 4, 5] rfl) hP hS
def fX8_evenly_s27 (n : Nat) (K4 : Int32 → Int32 → St → Option (Unit × St)) (K27 : Int32 → Int32 → Int32 → Int32 → Int32 → St → Option (Unit × St)) (b : Nat) (v2 : Int32) (v3 : Int32) (v4 : Int32) (v5 : Int32) (v6 : Int32) (st : St) : Option (Unit × St) := if (st.1 b 2) ≤ v6 then fX8_evenly_s84 n K4 b v2 v3 v4 v5 st else fX8_evenly_s36 n K4 K27 b v2 v3 v4 v5 v6 st
set_option maxHeartbeats 4000000 in
set_option maxRecDepth 100000 in
theorem wX8_evenly_s27 (C : Cx p s m args meth c cX8_evenly 8 wsL_law RX8 none D G ad) (n : Nat) (K4 : Int32 → Int32 → St → Option (Unit × St)) (K27 : Int32 → Int32 → Int32 → Int32 → Int32 → St → Option (Unit × St)) (b : Nat) (v2 : Int32) (v3 : Int32) (v4 : Int32) (v5 : Int32) (v6 : Int32) (ib : isSh b)  (st : St) (res : (Unit × St)) (hK4 : ∀ (v2 : Int32) (v3 : Int32) (st : St), K4 v2 v3 st = some res → At p l e (rmK 1) s m args below meth c D G ad (MQV D G ad below args s res) 8 st [(0, .ref (ad b)), (2, .int v2), (3, .int v3)] 4 []) (hK27 : ∀ (v2 : Int32) (v3 : Int32) (v4 : Int32) (v5 : Int32) (v6 : Int32) (st : St), K27 v2 v3 v4 v5 v6 st = some res → At p l e (rmK 1) s m args below meth c D G ad (MQV D G ad below args s res) 8 st [(0, .ref (ad b)), (2, .int v2), (3, .int v3), (4, .int v4), (5, .int v5), (6, .int v6)] 27 []) (hf : fX8_evenly_s27 n K4 K27 b v2 v3 v4 v5 v6 st = some res) : At p l e (rmK 1) s m args below meth c D G ad (MQV D G ad below args s res) 8 st [(0, .ref (ad b)), (2, .int v2), (3, .int v3), (4, .int v4), (5, .int v5), (6, .int v6)] 27 [] := by
  obtain ⟨hx, hb, hml, hown, hts, hr, hlk, hK, had, hSt⟩ := id C
  intro H locs ls hl hP hS
  unfold fX8_evenly_s27 at hf
  refine lv_iload hx hb dX8_evenly_27 (lv_at hl 5 rfl) ?_
  refine lv_aload_n hx hb dX8_evenly_29 rfl (lv_at hl 0 rfl) ?_
  refine g_getI hx hb hts inlX8 hown hK hP b (sh_0 ib) rfl 2 (by decide) (hts _ wm_19_4) rfl dX8_evenly_30 ?_
  refine lv_icmp_ge (tgt := 84) hx hb dX8_evenly_33 (by decide) (fun q => ?_) (fun q => ?_)
  · exact wX8_evenly_s84 C n K4 b v2 v3 v4 v5 ib st res hK4 (it hf q) H locs ls (lv_sub hl [0, 1, 2, 3, 4] rfl) hP hS
  · exact wX8_evenly_s36 C n K4 K27 b v2 v3 v4 v5 v6 ib st res hK4 hK27 (ie hf q) H locs ls (lv_sub hl [0, 1, 2, 3, 4, 5] rfl) hP hS
def fX8_evenly_L27 (n : Nat) (K4 : Int32 → Int32 → St → Option (Unit × St)) (b : Nat) : Nat → Int32 → Int32 → Int32 → Int32 → Int32 → St → Option (Unit × St)
  | 0, _, _, _, _, _, _ => none
  | k + 1, v2, v3, v4, v5, v6, st => fX8_evenly_s27 n K4 (fX8_evenly_L27 n K4 b k) b v2 v3 v4 v5 v6 st
theorem wX8_evenly_L27 (C : Cx p s m args meth c cX8_evenly 8 wsL_law RX8 none D G ad) (n : Nat) (K4 : Int32 → Int32 → St → Option (Unit × St)) (b : Nat) (ib : isSh b) (res : (Unit × St)) (hK4 : ∀ (v2 : Int32) (v3 : Int32) (st : St), K4 v2 v3 st = some res → At p l e (rmK 1) s m args below meth c D G ad (MQV D G ad below args s res) 8 st [(0, .ref (ad b)), (2, .int v2), (3, .int v3)] 4 []) : ∀ (k : Nat) (v2 : Int32) (v3 : Int32) (v4 : Int32) (v5 : Int32) (v6 : Int32)  (st : St), fX8_evenly_L27 n K4 b k v2 v3 v4 v5 v6 st = some res → At p l e (rmK 1) s m args below meth c D G ad (MQV D G ad below args s res) 8 st [(0, .ref (ad b)), (2, .int v2), (3, .int v3), (4, .int v4), (5, .int v5), (6, .int v6)] 27 [] := by
  intro k
  induction k with
  | zero => intro v2 v3 v4 v5 v6  st h; exact absurd h (by intro q; cases q)
  | succ k ih => intro v2 v3 v4 v5 v6  st h; exact wX8_evenly_s27 C n K4 (fX8_evenly_L27 n K4 b k) b v2 v3 v4 v5 v6 ib  st res hK4 ih h
def fX8_evenly_s18 (n : Nat) (K4 : Int32 → Int32 → St → Option (Unit × St)) (b : Nat) (v2 : Int32) (v3 : Int32) (st : St) : Option (Unit × St) := fX8_evenly_L27 n K4 b n v2 v3 0 v2 0 st
set_option maxHeartbeats 4000000 in
set_option maxRecDepth 100000 in
theorem wX8_evenly_s18 (C : Cx p s m args meth c cX8_evenly 8 wsL_law RX8 none D G ad) (n : Nat) (K4 : Int32 → Int32 → St → Option (Unit × St)) (b : Nat) (v2 : Int32) (v3 : Int32) (ib : isSh b)  (st : St) (res : (Unit × St)) (hK4 : ∀ (v2 : Int32) (v3 : Int32) (st : St), K4 v2 v3 st = some res → At p l e (rmK 1) s m args below meth c D G ad (MQV D G ad below args s res) 8 st [(0, .ref (ad b)), (2, .int v2), (3, .int v3)] 4 []) (hf : fX8_evenly_s18 n K4 b v2 v3 st = some res) : At p l e (rmK 1) s m args below meth c D G ad (MQV D G ad below args s res) 8 st [(0, .ref (ad b)), (2, .int v2), (3, .int v3)] 18 [] := by
  obtain ⟨hx, hb, hml, hown, hts, hr, hlk, hK, had, hSt⟩ := id C
  intro H locs ls hl hP hS
  unfold fX8_evenly_s18 at hf
  refine lv_iconst (v := 0) hx hb dX8_evenly_18 (by decide) ?_
  refine lv_istore (lv' := [(4, .int 0), (0, .ref (ad b)), (2, .int v2), (3, .int v3)]) hx hb dX8_evenly_19 hl (by decide) rfl (fun ls hl => ?_)
  refine lv_iload_n hx hb dX8_evenly_21 rfl (lv_at hl 2 rfl) ?_
  refine lv_istore (lv' := [(5, .int v2), (4, .int 0), (0, .ref (ad b)), (2, .int v2), (3, .int v3)]) hx hb dX8_evenly_22 hl (by decide) rfl (fun ls hl => ?_)
  refine lv_iconst (v := 0) hx hb dX8_evenly_24 (by decide) ?_
  refine lv_istore (lv' := [(6, .int 0), (5, .int v2), (4, .int 0), (0, .ref (ad b)), (2, .int v2), (3, .int v3)]) hx hb dX8_evenly_25 hl (by decide) rfl (fun ls hl => ?_)
  exact wX8_evenly_L27 C n K4 b ib res hK4 n v2 v3 0 v2 0 st hf H locs ls (lv_sub hl [3, 4, 5, 2, 1, 0] rfl) hP hS
def fX8_evenly_s14 (n : Nat) (K4 : Int32 → Int32 → St → Option (Unit × St)) (b : Nat) (v2 : Int32) (v3 : Int32) (st : St) : Option (Unit × St) := if v2 ≤ 0 then fX8_evenly_s170 n b st else fX8_evenly_s18 n K4 b v2 v3 st
set_option maxHeartbeats 4000000 in
set_option maxRecDepth 100000 in
theorem wX8_evenly_s14 (C : Cx p s m args meth c cX8_evenly 8 wsL_law RX8 none D G ad) (n : Nat) (K4 : Int32 → Int32 → St → Option (Unit × St)) (b : Nat) (v2 : Int32) (v3 : Int32) (ib : isSh b)  (st : St) (res : (Unit × St)) (hK4 : ∀ (v2 : Int32) (v3 : Int32) (st : St), K4 v2 v3 st = some res → At p l e (rmK 1) s m args below meth c D G ad (MQV D G ad below args s res) 8 st [(0, .ref (ad b)), (2, .int v2), (3, .int v3)] 4 []) (hf : fX8_evenly_s14 n K4 b v2 v3 st = some res) : At p l e (rmK 1) s m args below meth c D G ad (MQV D G ad below args s res) 8 st [(0, .ref (ad b)), (2, .int v2), (3, .int v3)] 14 [] := by
  obtain ⟨hx, hb, hml, hown, hts, hr, hlk, hK, had, hSt⟩ := id C
  intro H locs ls hl hP hS
  unfold fX8_evenly_s14 at hf
  refine lv_iload_n hx hb dX8_evenly_14 rfl (lv_at hl 1 rfl) ?_
  refine lv_if_le (tgt := 170) hx hb dX8_evenly_15 (by decide) (fun q => ?_) (fun q => ?_)
  · exact wX8_evenly_s170 C n b ib st res (it hf q) H locs ls (lv_sub hl [] rfl) hP hS
  · exact wX8_evenly_s18 C n K4 b v2 v3 ib st res hK4 (ie hf q) H locs ls (lv_sub hl [0, 1, 2] rfl) hP hS
def fX8_evenly_s4 (n : Nat) (K4 : Int32 → Int32 → St → Option (Unit × St)) (b : Nat) (v2 : Int32) (v3 : Int32) (st : St) : Option (Unit × St) := if ((st.1 b 2) + 2) ≤ v3 then fX8_evenly_s170 n b st else fX8_evenly_s14 n K4 b v2 v3 st
set_option maxHeartbeats 4000000 in
set_option maxRecDepth 100000 in
theorem wX8_evenly_s4 (C : Cx p s m args meth c cX8_evenly 8 wsL_law RX8 none D G ad) (n : Nat) (K4 : Int32 → Int32 → St → Option (Unit × St)) (b : Nat) (v2 : Int32) (v3 : Int32) (ib : isSh b)  (st : St) (res : (Unit × St)) (hK4 : ∀ (v2 : Int32) (v3 : Int32) (st : St), K4 v2 v3 st = some res → At p l e (rmK 1) s m args below meth c D G ad (MQV D G ad below args s res) 8 st [(0, .ref (ad b)), (2, .int v2), (3, .int v3)] 4 []) (hf : fX8_evenly_s4 n K4 b v2 v3 st = some res) : At p l e (rmK 1) s m args below meth c D G ad (MQV D G ad below args s res) 8 st [(0, .ref (ad b)), (2, .int v2), (3, .int v3)] 4 [] := by
  obtain ⟨hx, hb, hml, hown, hts, hr, hlk, hK, had, hSt⟩ := id C
  intro H locs ls hl hP hS
  unfold fX8_evenly_s4 at hf
  refine lv_iload_n hx hb dX8_evenly_4 rfl (lv_at hl 2 rfl) ?_
  refine lv_aload_n hx hb dX8_evenly_5 rfl (lv_at hl 0 rfl) ?_
  refine g_getI hx hb hts inlX8 hown hK hP b (sh_0 ib) rfl 2 (by decide) (hts _ wm_19_4) rfl dX8_evenly_6 ?_
  refine lv_iconst (v := 2) hx hb dX8_evenly_9 (by decide) ?_
  refine lv_iadd hx hb dX8_evenly_10 ?_
  refine lv_icmp_ge (tgt := 170) hx hb dX8_evenly_11 (by decide) (fun q => ?_) (fun q => ?_)
  · exact wX8_evenly_s170 C n b ib st res (it hf q) H locs ls (lv_sub hl [] rfl) hP hS
  · exact wX8_evenly_s14 C n K4 b v2 v3 ib st res hK4 (ie hf q) H locs ls (lv_sub hl [0, 1, 2] rfl) hP hS
def fX8_evenly_L4 (n : Nat)  (b : Nat) : Nat → Int32 → Int32 → St → Option (Unit × St)
  | 0, _, _, _ => none
  | k + 1, v2, v3, st => fX8_evenly_s4 n (fX8_evenly_L4 n b k) b v2 v3 st
theorem wX8_evenly_L4 (C : Cx p s m args meth c cX8_evenly 8 wsL_law RX8 none D G ad) (n : Nat)  (b : Nat) (ib : isSh b) (res : (Unit × St))  : ∀ (k : Nat) (v2 : Int32) (v3 : Int32)  (st : St), fX8_evenly_L4 n b k v2 v3 st = some res → At p l e (rmK 1) s m args below meth c D G ad (MQV D G ad below args s res) 8 st [(0, .ref (ad b)), (2, .int v2), (3, .int v3)] 4 [] := by
  intro k
  induction k with
  | zero => intro v2 v3  st h; exact absurd h (by intro q; cases q)
  | succ k ih => intro v2 v3  st h; exact wX8_evenly_s4 C n (fX8_evenly_L4 n b k) b v2 v3 ib  st res ih h
def fX8_evenly_s0 (n : Nat)  (b : Nat) (v1 : Int32) (st : St) : Option (Unit × St) := fX8_evenly_L4 n b n v1 0 st
set_option maxHeartbeats 4000000 in
set_option maxRecDepth 100000 in
theorem wX8_evenly_s0 (C : Cx p s m args meth c cX8_evenly 8 wsL_law RX8 none D G ad) (n : Nat)  (b : Nat) (v1 : Int32) (ib : isSh b)  (st : St) (res : (Unit × St))  (hf : fX8_evenly_s0 n  b v1 st = some res) : At p l e (rmK 1) s m args below meth c D G ad (MQV D G ad below args s res) 8 st [(0, .ref (ad b)), (1, .int v1)] 0 [] := by
  obtain ⟨hx, hb, hml, hown, hts, hr, hlk, hK, had, hSt⟩ := id C
  intro H locs ls hl hP hS
  unfold fX8_evenly_s0 at hf
  refine lv_iload_n hx hb dX8_evenly_0 rfl (lv_at hl 1 rfl) ?_
  refine lv_istore_n (lv' := [(2, .int v1), (0, .ref (ad b)), (1, .int v1)]) hx hb dX8_evenly_1 rfl hl (by decide) rfl (fun ls hl => ?_)
  refine lv_iconst (v := 0) hx hb dX8_evenly_2 (by decide) ?_
  refine lv_istore_n (lv' := [(3, .int 0), (2, .int v1), (0, .ref (ad b)), (1, .int v1)]) hx hb dX8_evenly_3 rfl hl (by decide) rfl (fun ls hl => ?_)
  exact wX8_evenly_L4 C n b ib res n v1 0 st hf H locs ls (lv_sub hl [2, 1, 0] rfl) hP hS
def fX8_evenly (n : Nat) (b : Nat) (a1 : Int32) (st : St) : Option (Unit × St) := fX8_evenly_s0 n b a1 st
theorem okX8_evenly : okY yX8_evenly RX8 1 := by unfold okY; decide +kernel
end
set_option maxRecDepth 100000 in
theorem kX8_evenly (l : Launch) (D : va_G) (G : G3) (ad : Nat → Nat) (had : Adr ad) (n : Nat) (b : Nat) (ib : isSh b) (a1 : Int32) (st : St) (res : (Unit × St)) (hf : fX8_evenly n b a1 st = some res) {sz : Nat} : CtV l yX8_evenly (wsU yX8_evenly cX8_evenly 8 none) (rmK 1) D G ad sz [.ref (ad b), .int a1] st res := by
  refine Met.ofW (cc := cX8_evenly) (maxL := 8) (ret := none) (by decide) rfl ?_
  intro p e s m args below meth c s₁ B hml hv
  obtain ⟨rfl, hsz, hP, hK, hSt⟩ := hv
  have hts := atoms_spec (ws := wsU yX8_evenly cX8_evenly 8 none) B.pre
  have C : Cx p s m _ meth c cX8_evenly 8 wsL_law RX8 none D G ad := ⟨B.exec, B.bytes, hml, findClass_of_methodNamed B.named, fun w h => hts w (List.mem_cons_of_mem _ h), B.returns, B.notSynchronized, hK, had, hSt⟩
  subst hsz
  have hl := lv_entry ([.ref (ad b), .int a1]) (n := 8) (Nat.le_of_ble_eq_true rfl)
  rw [lg_entry_eq]
  generalize (lg_sl ([.ref (ad b), .int a1]) ++ List.replicate (8 - (lg_sl ([.ref (ad b), .int a1])).length) Slot.unset).toArray = ls at hl ⊢
  exact wX8_evenly_s0 C n b a1 ib  st res hf s.heap [] ls (lv_sub hl [0, 1] rfl) hP va_S.rf
section
variable {p : Program} {l : Launch} {e : Env} {s : State} {m : MethodId} {args : Array Value} {below : List Frame} {meth : Method} {c : Code} {D : va_G} {G : G3} {ad : Nat → Nat}
def fX8_split_s77 (n : Nat)  (b : Nat)  (st : St) : Option (Unit × St) := some ((), st)
set_option maxHeartbeats 4000000 in
set_option maxRecDepth 100000 in
theorem wX8_split_s77 (C : Cx p s m args meth c cX8_split 6 wsL_law RX8 none D G ad) (n : Nat)  (b : Nat)  (ib : isSh b)  (st : St) (res : (Unit × St))  (hf : fX8_split_s77 n  b  st = some res) : At p l e (rmK 2) s m args below meth c D G ad (MQV D G ad below args s res) 6 st [] 77 [] := by
  obtain ⟨hx, hb, hml, hown, hts, hr, hlk, hK, had, hSt⟩ := id C
  intro H locs ls hl hP hS
  unfold fX8_split_s77 at hf
  exact g_vret hx hb hr hlk hP hS dX8_split_77 hf
def fX8_split_s55 (n : Nat)  (b : Nat)  (st : St) : Option (Unit × St) := fX8_split_s77 n b st
set_option maxHeartbeats 4000000 in
set_option maxRecDepth 100000 in
theorem wX8_split_s55 (C : Cx p s m args meth c cX8_split 6 wsL_law RX8 none D G ad) (n : Nat)  (b : Nat)  (ib : isSh b)  (st : St) (res : (Unit × St))  (hf : fX8_split_s55 n  b  st = some res) : At p l e (rmK 2) s m args below meth c D G ad (MQV D G ad below args s res) 6 st [] 55 [] := by
  obtain ⟨hx, hb, hml, hown, hts, hr, hlk, hK, had, hSt⟩ := id C
  intro H locs ls hl hP hS
  unfold fX8_split_s55 at hf
  refine lv_goto (tgt := 77) hx hb dX8_split_55 (by decide) ?_
  exact wX8_split_s77 C n b ib st res hf H locs ls (lv_sub hl [] rfl) hP hS
def fX8_split_s50 (n : Nat)  (b : Nat) (v2 : Int32) (st : St) : Option (Unit × St) := (fX8_byNumbers n b v2 st).bind (fun q => fX8_split_s55 n b q.2)
set_option maxHeartbeats 4000000 in
set_option maxRecDepth 100000 in
theorem wX8_split_s50 (C : Cx p s m args meth c cX8_split 6 wsL_law RX8 none D G ad) (n : Nat)  (b : Nat) (v2 : Int32) (ib : isSh b)  (st : St) (res : (Unit × St))  (hf : fX8_split_s50 n  b v2 st = some res) : At p l e (rmK 2) s m args below meth c D G ad (MQV D G ad below args s res) 6 st [(0, .ref (ad b)), (2, .int v2)] 50 [] := by
  obtain ⟨hx, hb, hml, hown, hts, hr, hlk, hK, had, hSt⟩ := id C
  intro H locs ls hl hP hS
  unfold fX8_split_s50 at hf
  refine lv_aload_n hx hb dX8_split_50 rfl (lv_at hl 0 rfl) ?_
  refine lv_iload_n hx hb dX8_split_51 rfl (lv_at hl 1 rfl) ?_
  obtain ⟨q, hq, hf⟩ := bd hf
  refine gcV_v (k := 1) (o := b) (As := [.int v2]) (rest := []) hx hb hml hown hts hK hSt hP hS hl.1 (goodV wm_19_9 wm_19_10 wm_19_11 wm_2_3 wm_19_12) okX8_byNumbers (sh_0 ib) rfl rfl (Nat.le_of_ble_eq_true rfl) (Nat.le_of_ble_eq_true rfl) rfl rfl (Nat.le_of_ble_eq_true rfl) dX8_split_52 (kX8_byNumbers l D G ad had n b ib v2 st q hq) (fun H locs hP hS => ?_)
  exact wX8_split_s55 C n b ib q.2 res hf H locs ls (lv_sub hl [] rfl) hP hS
def fX8_split_s72 (n : Nat)  (b : Nat) (v2 : Int32) (st : St) : Option (Unit × St) := (fX8_evenly n b v2 st).bind (fun q => fX8_split_s77 n b q.2)
set_option maxHeartbeats 4000000 in
set_option maxRecDepth 100000 in
theorem wX8_split_s72 (C : Cx p s m args meth c cX8_split 6 wsL_law RX8 none D G ad) (n : Nat)  (b : Nat) (v2 : Int32) (ib : isSh b)  (st : St) (res : (Unit × St))  (hf : fX8_split_s72 n  b v2 st = some res) : At p l e (rmK 2) s m args below meth c D G ad (MQV D G ad below args s res) 6 st [(0, .ref (ad b)), (2, .int v2)] 72 [] := by
  obtain ⟨hx, hb, hml, hown, hts, hr, hlk, hK, had, hSt⟩ := id C
  intro H locs ls hl hP hS
  unfold fX8_split_s72 at hf
  refine lv_aload_n hx hb dX8_split_72 rfl (lv_at hl 0 rfl) ?_
  refine lv_iload_n hx hb dX8_split_73 rfl (lv_at hl 1 rfl) ?_
  obtain ⟨q, hq, hf⟩ := bd hf
  refine gcV_v (k := 1) (o := b) (As := [.int v2]) (rest := []) hx hb hml hown hts hK hSt hP hS hl.1 (goodV wm_19_22 wm_19_23 wm_20_0 wm_2_3 wm_20_1) okX8_evenly (sh_0 ib) rfl rfl (Nat.le_of_ble_eq_true rfl) (Nat.le_of_ble_eq_true rfl) rfl rfl (Nat.le_of_ble_eq_true rfl) dX8_split_74 (kX8_evenly l D G ad had n b ib v2 st q hq) (fun H locs hP hS => ?_)
  exact wX8_split_s77 C n b ib q.2 res hf H locs ls (lv_sub hl [] rfl) hP hS
def fX8_split_s69 (n : Nat)  (b : Nat)  (st : St) : Option (Unit × St) := fX8_split_s77 n b st
set_option maxHeartbeats 4000000 in
set_option maxRecDepth 100000 in
theorem wX8_split_s69 (C : Cx p s m args meth c cX8_split 6 wsL_law RX8 none D G ad) (n : Nat)  (b : Nat)  (ib : isSh b)  (st : St) (res : (Unit × St))  (hf : fX8_split_s69 n  b  st = some res) : At p l e (rmK 2) s m args below meth c D G ad (MQV D G ad below args s res) 6 st [] 69 [] := by
  obtain ⟨hx, hb, hml, hown, hts, hr, hlk, hK, had, hSt⟩ := id C
  intro H locs ls hl hP hS
  unfold fX8_split_s69 at hf
  refine lv_goto (tgt := 77) hx hb dX8_split_69 (by decide) ?_
  exact wX8_split_s77 C n b ib st res hf H locs ls (lv_sub hl [] rfl) hP hS
def fX8_split_s63 (n : Nat)  (b : Nat) (v2 : Int32) (v3 : Int64) (st : St) : Option (Unit × St) := (fX8_byParts n b v2 v3 st).bind (fun q => fX8_split_s69 n b q.2)
set_option maxHeartbeats 4000000 in
set_option maxRecDepth 100000 in
theorem wX8_split_s63 (C : Cx p s m args meth c cX8_split 6 wsL_law RX8 none D G ad) (n : Nat)  (b : Nat) (v2 : Int32) (v3 : Int64) (ib : isSh b)  (st : St) (res : (Unit × St))  (hf : fX8_split_s63 n  b v2 v3 st = some res) : At p l e (rmK 2) s m args below meth c D G ad (MQV D G ad below args s res) 6 st [(0, .ref (ad b)), (2, .int v2), (3, .long v3)] 63 [] := by
  obtain ⟨hx, hb, hml, hown, hts, hr, hlk, hK, had, hSt⟩ := id C
  intro H locs ls hl hP hS
  unfold fX8_split_s63 at hf
  refine lv_aload_n hx hb dX8_split_63 rfl (lv_at hl 0 rfl) ?_
  refine lv_iload_n hx hb dX8_split_64 rfl (lv_at hl 1 rfl) ?_
  refine lv_lload_n hx hb dX8_split_65 rfl (lv_at hl 2 rfl) ?_
  obtain ⟨q, hq, hf⟩ := bd hf
  refine gcV_v (k := 1) (o := b) (As := [.int v2, .long v3]) (rest := []) hx hb hml hown hts hK hSt hP hS hl.1 (goodV wm_19_14 wm_19_15 wm_19_16 wm_2_3 wm_19_17) okX8_byParts (sh_0 ib) rfl rfl (Nat.le_of_ble_eq_true rfl) (Nat.le_of_ble_eq_true rfl) rfl rfl (Nat.le_of_ble_eq_true rfl) dX8_split_66 (kX8_byParts l D G ad had n b ib v2 v3 st q hq) (fun H locs hP hS => ?_)
  exact wX8_split_s69 C n b ib q.2 res hf H locs ls (lv_sub hl [] rfl) hP hS
def fX8_split_s58 (n : Nat)  (b : Nat) (v1 : Int32) (v2 : Int32) (v3 : Int64) (st : St) : Option (Unit × St) := if v1 = 1 then fX8_split_s63 n b v2 v3 st else fX8_split_s72 n b v2 st
set_option maxHeartbeats 4000000 in
set_option maxRecDepth 100000 in
theorem wX8_split_s58 (C : Cx p s m args meth c cX8_split 6 wsL_law RX8 none D G ad) (n : Nat)  (b : Nat) (v1 : Int32) (v2 : Int32) (v3 : Int64) (ib : isSh b)  (st : St) (res : (Unit × St))  (hf : fX8_split_s58 n  b v1 v2 v3 st = some res) : At p l e (rmK 2) s m args below meth c D G ad (MQV D G ad below args s res) 6 st [(0, .ref (ad b)), (1, .int v1), (2, .int v2), (3, .long v3)] 58 [] := by
  obtain ⟨hx, hb, hml, hown, hts, hr, hlk, hK, had, hSt⟩ := id C
  intro H locs ls hl hP hS
  unfold fX8_split_s58 at hf
  refine lv_iload_n hx hb dX8_split_58 rfl (lv_at hl 1 rfl) ?_
  refine lv_iconst (v := 1) hx hb dX8_split_59 (by decide) ?_
  refine lv_icmp_ne (tgt := 72) hx hb dX8_split_60 (by decide) (fun q => ?_) (fun q => ?_)
  · exact wX8_split_s72 C n b v2 ib st res (ie hf q) H locs ls (lv_sub hl [0, 2] rfl) hP hS
  · exact wX8_split_s63 C n b v2 v3 ib st res (it hf q) H locs ls (lv_sub hl [0, 2, 3] rfl) hP hS
def fX8_split_s43 (n : Nat)  (b : Nat) (v1 : Int32) (v2 : Int32) (v3 : Int64) (st : St) : Option (Unit × St) := if v2.toInt64 < v3 then fX8_split_s58 n b v1 v2 v3 st else fX8_split_s50 n b v2 st
set_option maxHeartbeats 4000000 in
set_option maxRecDepth 100000 in
theorem wX8_split_s43 (C : Cx p s m args meth c cX8_split 6 wsL_law RX8 none D G ad) (n : Nat)  (b : Nat) (v1 : Int32) (v2 : Int32) (v3 : Int64) (ib : isSh b)  (st : St) (res : (Unit × St))  (hf : fX8_split_s43 n  b v1 v2 v3 st = some res) : At p l e (rmK 2) s m args below meth c D G ad (MQV D G ad below args s res) 6 st [(0, .ref (ad b)), (1, .int v1), (2, .int v2), (3, .long v3)] 43 [] := by
  obtain ⟨hx, hb, hml, hown, hts, hr, hlk, hK, had, hSt⟩ := id C
  intro H locs ls hl hP hS
  unfold fX8_split_s43 at hf
  refine lv_iload_n hx hb dX8_split_43 rfl (lv_at hl 2 rfl) ?_
  refine lv_i2l hx hb dX8_split_44 rfl ?_
  refine lv_lload_n hx hb dX8_split_45 rfl (lv_at hl 3 rfl) ?_
  refine g_lcmp_lt (tgt := 58) hx hb dX8_split_46 dX8_split_47 (by decide) (fun q => ?_) (fun q => ?_)
  · exact wX8_split_s58 C n b v1 v2 v3 ib st res (it hf q) H locs ls (lv_sub hl [0, 1, 2, 3] rfl) hP hS
  · exact wX8_split_s50 C n b v2 ib st res (ie hf q) H locs ls (lv_sub hl [0, 2] rfl) hP hS
def fX8_split_s39 (n : Nat)  (b : Nat) (v1 : Int32) (v2 : Int32) (v3 : Int64) (st : St) : Option (Unit × St) := if v1 = 0 then fX8_split_s50 n b v2 st else fX8_split_s43 n b v1 v2 v3 st
set_option maxHeartbeats 4000000 in
set_option maxRecDepth 100000 in
theorem wX8_split_s39 (C : Cx p s m args meth c cX8_split 6 wsL_law RX8 none D G ad) (n : Nat)  (b : Nat) (v1 : Int32) (v2 : Int32) (v3 : Int64) (ib : isSh b)  (st : St) (res : (Unit × St))  (hf : fX8_split_s39 n  b v1 v2 v3 st = some res) : At p l e (rmK 2) s m args below meth c D G ad (MQV D G ad below args s res) 6 st [(0, .ref (ad b)), (1, .int v1), (2, .int v2), (3, .long v3)] 39 [] := by
  obtain ⟨hx, hb, hml, hown, hts, hr, hlk, hK, had, hSt⟩ := id C
  intro H locs ls hl hP hS
  unfold fX8_split_s39 at hf
  refine lv_iload_n hx hb dX8_split_39 rfl (lv_at hl 1 rfl) ?_
  refine lv_if_eq (tgt := 50) hx hb dX8_split_40 (by decide) (fun q => ?_) (fun q => ?_)
  · exact wX8_split_s50 C n b v2 ib st res (it hf q) H locs ls (lv_sub hl [0, 2] rfl) hP hS
  · exact wX8_split_s43 C n b v1 v2 v3 ib st res (ie hf q) H locs ls (lv_sub hl [0, 1, 2, 3] rfl) hP hS
def fX8_split_s33 (n : Nat) (K5 : Int32 → Int32 → Int64 → Int32 → St → Option (Unit × St)) (b : Nat) (v1 : Int32) (v2 : Int32) (v3 : Int64) (v5 : Int32) (st : St) : Option (Unit × St) := K5 v1 v2 v3 (v5 + 1) st
set_option maxHeartbeats 4000000 in
set_option maxRecDepth 100000 in
theorem wX8_split_s33 (C : Cx p s m args meth c cX8_split 6 wsL_law RX8 none D G ad) (n : Nat) (K5 : Int32 → Int32 → Int64 → Int32 → St → Option (Unit × St)) (b : Nat) (v1 : Int32) (v2 : Int32) (v3 : Int64) (v5 : Int32) (ib : isSh b)  (st : St) (res : (Unit × St)) (hK5 : ∀ (v1 : Int32) (v2 : Int32) (v3 : Int64) (v5 : Int32) (st : St), K5 v1 v2 v3 v5 st = some res → At p l e (rmK 2) s m args below meth c D G ad (MQV D G ad below args s res) 6 st [(0, .ref (ad b)), (1, .int v1), (2, .int v2), (3, .long v3), (5, .int v5)] 5 []) (hf : fX8_split_s33 n K5 b v1 v2 v3 v5 st = some res) : At p l e (rmK 2) s m args below meth c D G ad (MQV D G ad below args s res) 6 st [(0, .ref (ad b)), (1, .int v1), (2, .int v2), (3, .long v3), (5, .int v5)] 33 [] := by
  obtain ⟨hx, hb, hml, hown, hts, hr, hlk, hK, had, hSt⟩ := id C
  intro H locs ls hl hP hS
  unfold fX8_split_s33 at hf
  refine lv_iinc (v := v5 + 1) (lv' := [(5, .int (v5 + 1)), (0, .ref (ad b)), (1, .int v1), (2, .int v2), (3, .long v3)]) hx hb dX8_split_33 hl (k := 4) rfl rfl (by decide) rfl (fun ls hl => ?_)
  refine lv_goto (tgt := 5) hx hb dX8_split_36 (by decide) ?_
  exact hK5 v1 v2 v3 (v5 + 1)  st hf H locs ls (lv_sub hl [1, 2, 3, 4, 0] rfl) hP hS
def fX8_split_s14 (n : Nat) (K5 : Int32 → Int32 → Int64 → Int32 → St → Option (Unit × St)) (b : Nat) (v1 : Int32) (v2 : Int32) (v3 : Int64) (v5 : Int32) (st : St) : Option (Unit × St) := if inb v5 8 = true then (if inb v5 8 = true then (fX8_split_s33 n K5 b v1 v2 (v3 + ((st.1 (b + 1) v5.toNatClampNeg).toInt64)) v5 (setI st (b + 2) v5.toNatClampNeg 0)) else none) else none
set_option maxHeartbeats 4000000 in
set_option maxRecDepth 100000 in
theorem wX8_split_s14 (C : Cx p s m args meth c cX8_split 6 wsL_law RX8 none D G ad) (n : Nat) (K5 : Int32 → Int32 → Int64 → Int32 → St → Option (Unit × St)) (b : Nat) (v1 : Int32) (v2 : Int32) (v3 : Int64) (v5 : Int32) (ib : isSh b)  (st : St) (res : (Unit × St)) (hK5 : ∀ (v1 : Int32) (v2 : Int32) (v3 : Int64) (v5 : Int32) (st : St), K5 v1 v2 v3 v5 st = some res → At p l e (rmK 2) s m args below meth c D G ad (MQV D G ad below args s res) 6 st [(0, .ref (ad b)), (1, .int v1), (2, .int v2), (3, .long v3), (5, .int v5)] 5 []) (hf : fX8_split_s14 n K5 b v1 v2 v3 v5 st = some res) : At p l e (rmK 2) s m args below meth c D G ad (MQV D G ad below args s res) 6 st [(0, .ref (ad b)), (1, .int v1), (2, .int v2), (3, .long v3), (5, .int v5)] 14 [] := by
  obtain ⟨hx, hb, hml, hown, hts, hr, hlk, hK, had, hSt⟩ := id C
  intro H locs ls hl hP hS
  unfold fX8_split_s14 at hf
  refine lv_lload_n hx hb dX8_split_14 rfl (lv_at hl 3 rfl) ?_
  refine lv_aload_n hx hb dX8_split_15 rfl (lv_at hl 0 rfl) ?_
  refine g_getR hx hb hts inlX8 hown hK hP b (sh_0 ib) rfl 0 (by decide) (hts _ wm_4_14) rfl dX8_split_16 ?_
  refine lv_iload hx hb dX8_split_19 (lv_at hl 4 rfl) ?_
  obtain ⟨g1, hf⟩ := gd hf
  refine g_iald hx hb hK hP (b + 1) (sh_1 ib) g1 dX8_split_21 ?_
  refine lv_i2l hx hb dX8_split_22 rfl ?_
  refine lv_ladd hx hb dX8_split_23 ?_
  refine lv_lstore_n (lv' := [(3, .long (v3 + ((st.1 (b + 1) v5.toNatClampNeg).toInt64))), (0, .ref (ad b)), (1, .int v1), (2, .int v2), (5, .int v5)]) hx hb dX8_split_24 rfl hl (by decide) rfl (fun ls hl => ?_)
  refine lv_aload_n hx hb dX8_split_25 rfl (lv_at hl 1 rfl) ?_
  refine g_getR hx hb hts inlX8 hown hK hP b (sh_0 ib) rfl 1 (by decide) (hts _ wm_4_15) rfl dX8_split_26 ?_
  refine lv_iload hx hb dX8_split_29 (lv_at hl 4 rfl) ?_
  refine lv_iconst (v := 0) hx hb dX8_split_31 (by decide) ?_
  obtain ⟨g2, hf⟩ := gd hf
  refine g_iast hx hb hK had hP hS (b + 2) (sh_2 ib) g2 dX8_split_32 (fun H locs hP hS => ?_)
  exact wX8_split_s33 C n K5 b v1 v2 (v3 + ((st.1 (b + 1) v5.toNatClampNeg).toInt64)) v5 ib (setI st (b + 2) v5.toNatClampNeg 0) res hK5 hf H locs ls (lv_sub hl [1, 2, 3, 0, 4] rfl) hP hS
def fX8_split_s5 (n : Nat) (K5 : Int32 → Int32 → Int64 → Int32 → St → Option (Unit × St)) (b : Nat) (v1 : Int32) (v2 : Int32) (v3 : Int64) (v5 : Int32) (st : St) : Option (Unit × St) := if (st.1 b 2) ≤ v5 then fX8_split_s39 n b v1 v2 v3 st else fX8_split_s14 n K5 b v1 v2 v3 v5 st
set_option maxHeartbeats 4000000 in
set_option maxRecDepth 100000 in
theorem wX8_split_s5 (C : Cx p s m args meth c cX8_split 6 wsL_law RX8 none D G ad) (n : Nat) (K5 : Int32 → Int32 → Int64 → Int32 → St → Option (Unit × St)) (b : Nat) (v1 : Int32) (v2 : Int32) (v3 : Int64) (v5 : Int32) (ib : isSh b)  (st : St) (res : (Unit × St)) (hK5 : ∀ (v1 : Int32) (v2 : Int32) (v3 : Int64) (v5 : Int32) (st : St), K5 v1 v2 v3 v5 st = some res → At p l e (rmK 2) s m args below meth c D G ad (MQV D G ad below args s res) 6 st [(0, .ref (ad b)), (1, .int v1), (2, .int v2), (3, .long v3), (5, .int v5)] 5 []) (hf : fX8_split_s5 n K5 b v1 v2 v3 v5 st = some res) : At p l e (rmK 2) s m args below meth c D G ad (MQV D G ad below args s res) 6 st [(0, .ref (ad b)), (1, .int v1), (2, .int v2), (3, .long v3), (5, .int v5)] 5 [] := by
  obtain ⟨hx, hb, hml, hown, hts, hr, hlk, hK, had, hSt⟩ := id C
  intro H locs ls hl hP hS
  unfold fX8_split_s5 at hf
  refine lv_iload hx hb dX8_split_5 (lv_at hl 4 rfl) ?_
  refine lv_aload_n hx hb dX8_split_7 rfl (lv_at hl 0 rfl) ?_
  refine g_getI hx hb hts inlX8 hown hK hP b (sh_0 ib) rfl 2 (by decide) (hts _ wm_19_4) rfl dX8_split_8 ?_
  refine lv_icmp_ge (tgt := 39) hx hb dX8_split_11 (by decide) (fun q => ?_) (fun q => ?_)
  · exact wX8_split_s39 C n b v1 v2 v3 ib st res (it hf q) H locs ls (lv_sub hl [0, 1, 2, 3] rfl) hP hS
  · exact wX8_split_s14 C n K5 b v1 v2 v3 v5 ib st res hK5 (ie hf q) H locs ls (lv_sub hl [0, 1, 2, 3, 4] rfl) hP hS
def fX8_split_L5 (n : Nat)  (b : Nat) : Nat → Int32 → Int32 → Int64 → Int32 → St → Option (Unit × St)
  | 0, _, _, _, _, _ => none
  | k + 1, v1, v2, v3, v5, st => fX8_split_s5 n (fX8_split_L5 n b k) b v1 v2 v3 v5 st
theorem wX8_split_L5 (C : Cx p s m args meth c cX8_split 6 wsL_law RX8 none D G ad) (n : Nat)  (b : Nat) (ib : isSh b) (res : (Unit × St))  : ∀ (k : Nat) (v1 : Int32) (v2 : Int32) (v3 : Int64) (v5 : Int32)  (st : St), fX8_split_L5 n b k v1 v2 v3 v5 st = some res → At p l e (rmK 2) s m args below meth c D G ad (MQV D G ad below args s res) 6 st [(0, .ref (ad b)), (1, .int v1), (2, .int v2), (3, .long v3), (5, .int v5)] 5 [] := by
  intro k
  induction k with
  | zero => intro v1 v2 v3 v5  st h; exact absurd h (by intro q; cases q)
  | succ k ih => intro v1 v2 v3 v5  st h; exact wX8_split_s5 C n (fX8_split_L5 n b k) b v1 v2 v3 v5 ib  st res ih h
def fX8_split_s0 (n : Nat)  (b : Nat) (v1 : Int32) (v2 : Int32) (st : St) : Option (Unit × St) := fX8_split_L5 n b n v1 v2 0 0 st
set_option maxHeartbeats 4000000 in
set_option maxRecDepth 100000 in
theorem wX8_split_s0 (C : Cx p s m args meth c cX8_split 6 wsL_law RX8 none D G ad) (n : Nat)  (b : Nat) (v1 : Int32) (v2 : Int32) (ib : isSh b)  (st : St) (res : (Unit × St))  (hf : fX8_split_s0 n  b v1 v2 st = some res) : At p l e (rmK 2) s m args below meth c D G ad (MQV D G ad below args s res) 6 st [(0, .ref (ad b)), (1, .int v1), (2, .int v2)] 0 [] := by
  obtain ⟨hx, hb, hml, hown, hts, hr, hlk, hK, had, hSt⟩ := id C
  intro H locs ls hl hP hS
  unfold fX8_split_s0 at hf
  refine lv_lconst (v := 0) hx hb dX8_split_0 (by decide) ?_
  refine lv_lstore_n (lv' := [(3, .long 0), (0, .ref (ad b)), (1, .int v1), (2, .int v2)]) hx hb dX8_split_1 rfl hl (by decide) rfl (fun ls hl => ?_)
  refine lv_iconst (v := 0) hx hb dX8_split_2 (by decide) ?_
  refine lv_istore (lv' := [(5, .int 0), (3, .long 0), (0, .ref (ad b)), (1, .int v1), (2, .int v2)]) hx hb dX8_split_3 hl (by decide) rfl (fun ls hl => ?_)
  exact wX8_split_L5 C n b ib res n v1 v2 0 0 st hf H locs ls (lv_sub hl [2, 3, 4, 1, 0] rfl) hP hS
def fX8_split (n : Nat) (b : Nat) (a1 : Int32) (a2 : Int32) (st : St) : Option (Unit × St) := fX8_split_s0 n b a1 a2 st
theorem okX8_split : okY yX8_split RX8 2 := by unfold okY; decide +kernel
end
set_option maxRecDepth 100000 in
theorem kX8_split (l : Launch) (D : va_G) (G : G3) (ad : Nat → Nat) (had : Adr ad) (n : Nat) (b : Nat) (ib : isSh b) (a1 : Int32) (a2 : Int32) (st : St) (res : (Unit × St)) (hf : fX8_split n b a1 a2 st = some res) {sz : Nat} : CtV l yX8_split (wsU yX8_split cX8_split 6 none) (rmK 2) D G ad sz [.ref (ad b), .int a1, .int a2] st res := by
  refine Met.ofW (cc := cX8_split) (maxL := 6) (ret := none) (by decide) rfl ?_
  intro p e s m args below meth c s₁ B hml hv
  obtain ⟨rfl, hsz, hP, hK, hSt⟩ := hv
  have hts := atoms_spec (ws := wsU yX8_split cX8_split 6 none) B.pre
  have C : Cx p s m _ meth c cX8_split 6 wsL_law RX8 none D G ad := ⟨B.exec, B.bytes, hml, findClass_of_methodNamed B.named, fun w h => hts w (List.mem_cons_of_mem _ h), B.returns, B.notSynchronized, hK, had, hSt⟩
  subst hsz
  have hl := lv_entry ([.ref (ad b), .int a1, .int a2]) (n := 6) (Nat.le_of_ble_eq_true rfl)
  rw [lg_entry_eq]
  generalize (lg_sl ([.ref (ad b), .int a1, .int a2]) ++ List.replicate (6 - (lg_sl ([.ref (ad b), .int a1, .int a2])).length) Slot.unset).toArray = ls at hl ⊢
  exact wX8_split_s0 C n b a1 a2 ib  st res hf s.heap [] ls (lv_sub hl [0, 1, 2] rfl) hP va_S.rf
