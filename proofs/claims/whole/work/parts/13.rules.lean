theorem wm_1_19 : Cond.initialized RX7 ∈ wsL_law := in_r1 _ (mm_at 19 rfl)
theorem wm_4_3 : Cond.fieldLink RX7 9 "OrderEcho$Rules" "steps" "[I" ∈ wsL_law := in_r4 _ (mm_at 3 rfl)
theorem wm_4_4 : Cond.fieldLink RX7 15 "OrderEcho$Rules" "sizes" "[I" ∈ wsL_law := in_r4 _ (mm_at 4 rfl)
theorem wm_4_5 : Cond.fieldLink RX7 18 "OrderEcho$Rules" "stack" "[J" ∈ wsL_law := in_r4 _ (mm_at 5 rfl)
theorem wm_6_12 : Cond.fieldLink RX1 9 "OrderEcho$Flow" "stock" "[I" ∈ wsL_law := in_r6 _ (mm_at 12 rfl)
theorem wm_6_14 : Cond.fieldLink RX1 18 "OrderEcho$Flow" "coming" "[I" ∈ wsL_law := in_r6 _ (mm_at 14 rfl)
theorem wm_6_15 : Cond.fieldLink RX1 21 "OrderEcho$Flow" "owes" "[I" ∈ wsL_law := in_r6 _ (mm_at 15 rfl)
theorem wm_6_17 : Cond.fieldLink RX1 27 "OrderEcho$Flow" "unsent" "[I" ∈ wsL_law := in_r6 _ (mm_at 17 rfl)
theorem wm_6_19 : Cond.fieldLink RX1 33 "OrderEcho$Flow" "seen" "[I" ∈ wsL_law := in_r6 _ (mm_at 19 rfl)
theorem wm_11_23 : Cond.fieldLink RX7 22 "OrderEcho$Rules" "count" "I" ∈ wsL_law := in_r11 _ (mm_at 23 rfl)
theorem wm_14_8 : Cond.instanceMethod yX1_position ∈ wsL_law := in_r14 _ (mm_at 8 rfl)
theorem wm_14_9 : Cond.selects RX1 yX1_position yX1_position ∈ wsL_law := in_r14 _ (mm_at 9 rfl)
theorem wm_14_10 : Cond.code yX1_position cX1_position 2 (some .long) ∈ wsL_law := in_r14 _ (mm_at 10 rfl)
theorem wm_18_3 : Cond.native arraycopyName ∈ wsL_law := in_r18 _ (mm_at 3 rfl)
theorem wm_18_4 : Cond.static arraycopyName ∈ wsL_law := in_r18 _ (mm_at 4 rfl)
theorem wm_18_5 : Cond.initialized "java/lang/System" ∈ wsL_law := in_r18 _ (mm_at 5 rfl)
theorem wm_18_18 : Cond.methodLink RX1 110 Lib.Math.min.name ∈ wsL_law := in_r18 _ (mm_at 18 rfl)
theorem wm_20_17 : Cond.methodLink RX7 32 yX1_field ∈ wsL_law := in_r20 _ (mm_at 17 rfl)
theorem wm_20_18 : Cond.instanceMethod yX1_field ∈ wsL_law := in_r20 _ (mm_at 18 rfl)
theorem wm_20_19 : Cond.selects RX1 yX1_field yX1_field ∈ wsL_law := in_r20 _ (mm_at 19 rfl)
theorem wm_20_20 : Cond.code yX1_field cX1_field 3 (some .long) ∈ wsL_law := in_r20 _ (mm_at 20 rfl)
theorem wm_20_21 : Cond.methodLink RX1 147 Lib.Math.max.name ∈ wsL_law := in_r20 _ (mm_at 21 rfl)
theorem wm_21_0 : Cond.methodLink RX1 161 yX1_latest ∈ wsL_law := in_r21 _ (mm_at 0 rfl)
theorem wm_21_1 : Cond.methodLink RX1 165 yX1_mean ∈ wsL_law := in_r21 _ (mm_at 1 rfl)
theorem wm_21_2 : Cond.instanceMethod yX1_mean ∈ wsL_law := in_r21 _ (mm_at 2 rfl)
theorem wm_21_3 : Cond.selects RX1 yX1_mean yX1_mean ∈ wsL_law := in_r21 _ (mm_at 3 rfl)
theorem wm_21_4 : Cond.code yX1_mean cX1_mean 6 (some .long) ∈ wsL_law := in_r21 _ (mm_at 4 rfl)
theorem wm_21_5 : Cond.methodLink RX1 169 yX1_position ∈ wsL_law := in_r21 _ (mm_at 5 rfl)
theorem wm_21_6 : Cond.methodLink RX7 38 yX7_apply ∈ wsL_law := in_r21 _ (mm_at 6 rfl)
theorem wm_21_7 : Cond.static yX7_apply ∈ wsL_law := in_r21 _ (mm_at 7 rfl)
theorem wm_21_8 : Cond.code yX7_apply cX7_apply 5 (some .long) ∈ wsL_law := in_r21 _ (mm_at 8 rfl)
theorem wm_21_9 : Cond.methodLink RX7 46 Lib.MathLoose.min_long.x ∈ wsL_law := in_r21 _ (mm_at 9 rfl)
theorem wm_21_10 : Cond.static Lib.MathLoose.min_long.x ∈ wsL_law := in_r21 _ (mm_at 10 rfl)
theorem wm_21_11 : Cond.code Lib.MathLoose.min_long.x Lib.MathLoose.min_long.code 4 (some .long) ∈ wsL_law := in_r21 _ (mm_at 11 rfl)
theorem wm_21_12 : Cond.methodLink RX7 52 Lib.MathLoose.max_long.x ∈ wsL_law := in_r21 _ (mm_at 12 rfl)
theorem wm_21_13 : Cond.static Lib.MathLoose.max_long.x ∈ wsL_law := in_r21 _ (mm_at 13 rfl)
theorem wm_21_14 : Cond.code Lib.MathLoose.max_long.x Lib.MathLoose.max_long.code 4 (some .long) ∈ wsL_law := in_r21 _ (mm_at 14 rfl)
theorem wm_21_15 : Cond.methodLink RX7 42 yX7_bound ∈ wsL_law := in_r21 _ (mm_at 15 rfl)
theorem wm_21_16 : Cond.static yX7_bound ∈ wsL_law := in_r21 _ (mm_at 16 rfl)
theorem wm_21_17 : Cond.code yX7_bound cX7_bound 2 (some .long) ∈ wsL_law := in_r21 _ (mm_at 17 rfl)
theorem wm_21_18 : Cond.constantLong RX7 55 (-1000000000) ∈ wsL_law := in_r21 _ (mm_at 18 rfl)
theorem wm_21_19 : Cond.constantLong RX7 57 (1000000000) ∈ wsL_law := in_r21 _ (mm_at 19 rfl)
theorem wm_30_1 : Cond.methodLink RX7 26 arraycopyName ∈ wsL_law := in_r30 _ (mm_at 1 rfl)
section
variable {p : Program} {l : Launch} {e : Env} {s : State} {m : MethodId} {args : Array Value} {below : List Frame} {meth : Method} {c : Code} {D : va_G} {G : G3} {ad : Nat → Nat}
def fX7_has_s17 (n : Nat)   (k0 : Int32) (st : St) : Option (Int32 × St) := if zb k0 = true then (some (k0, st)) else none
set_option maxHeartbeats 4000000 in
set_option maxRecDepth 100000 in
theorem wX7_has_s17 (C : Cx p s m args meth c cX7_has 2 wsL_law RX7 (some .boolean) D G ad) (n : Nat)   (k0 : Int32)   (st : St) (res : (Int32 × St))  (hf : fX7_has_s17 n   k0 st = some res) : At p l e (rmK 0) s m args below meth c D G ad (MQI D G ad below args s res) 2 st [] 17 [.int k0] := by
  obtain ⟨hx, hb, hml, hown, hts, hr, hlk, hK, had, hSt⟩ := id C
  intro H locs ls hl hP hS
  unfold fX7_has_s17 at hf
  obtain ⟨gz, hf⟩ := gd hf
  exact g_zret hx hb hr hlk hP hS (zb_of gz) dX7_has_17 hf
def fX7_has_s16 (n : Nat)    (st : St) : Option (Int32 × St) := fX7_has_s17 n 0 st
set_option maxHeartbeats 4000000 in
set_option maxRecDepth 100000 in
theorem wX7_has_s16 (C : Cx p s m args meth c cX7_has 2 wsL_law RX7 (some .boolean) D G ad) (n : Nat)      (st : St) (res : (Int32 × St))  (hf : fX7_has_s16 n    st = some res) : At p l e (rmK 0) s m args below meth c D G ad (MQI D G ad below args s res) 2 st [] 16 [] := by
  obtain ⟨hx, hb, hml, hown, hts, hr, hlk, hK, had, hSt⟩ := id C
  intro H locs ls hl hP hS
  unfold fX7_has_s16 at hf
  refine lv_iconst (v := 0) hx hb dX7_has_16 (by decide) ?_
  exact wX7_has_s17 C n 0 st res hf H locs ls (lv_sub hl [] rfl) hP hS
def fX7_has_s12 (n : Nat)    (st : St) : Option (Int32 × St) := fX7_has_s17 n 1 st
set_option maxHeartbeats 4000000 in
set_option maxRecDepth 100000 in
theorem wX7_has_s12 (C : Cx p s m args meth c cX7_has 2 wsL_law RX7 (some .boolean) D G ad) (n : Nat)      (st : St) (res : (Int32 × St))  (hf : fX7_has_s12 n    st = some res) : At p l e (rmK 0) s m args below meth c D G ad (MQI D G ad below args s res) 2 st [] 12 [] := by
  obtain ⟨hx, hb, hml, hown, hts, hr, hlk, hK, had, hSt⟩ := id C
  intro H locs ls hl hP hS
  unfold fX7_has_s12 at hf
  refine lv_iconst (v := 1) hx hb dX7_has_12 (by decide) ?_
  refine lv_goto (tgt := 17) hx hb dX7_has_13 (by decide) ?_
  exact wX7_has_s17 C n 1 st res hf H locs ls (lv_sub hl [] rfl) hP hS
def fX7_has_s4 (n : Nat)   (v1 : Int32) (st : St) : Option (Int32 × St) := if (st.1 11 3) ≤ v1 then fX7_has_s16 n st else fX7_has_s12 n st
set_option maxHeartbeats 4000000 in
set_option maxRecDepth 100000 in
theorem wX7_has_s4 (C : Cx p s m args meth c cX7_has 2 wsL_law RX7 (some .boolean) D G ad) (n : Nat)   (v1 : Int32)   (st : St) (res : (Int32 × St))  (hf : fX7_has_s4 n   v1 st = some res) : At p l e (rmK 0) s m args below meth c D G ad (MQI D G ad below args s res) 2 st [(0, .ref (ad 11)), (1, .int v1)] 4 [] := by
  obtain ⟨hx, hb, hml, hown, hts, hr, hlk, hK, had, hSt⟩ := id C
  intro H locs ls hl hP hS
  unfold fX7_has_s4 at hf
  refine lv_iload_n hx hb dX7_has_4 rfl (lv_at hl 1 rfl) ?_
  refine lv_aload_n hx hb dX7_has_5 rfl (lv_at hl 0 rfl) ?_
  refine g_getI hx hb hts inlX7 hown hK hP 11 ct_11 rfl 3 (by decide) (hts _ wm_11_23) rfl dX7_has_6 ?_
  refine lv_icmp_ge (tgt := 16) hx hb dX7_has_9 (by decide) (fun q => ?_) (fun q => ?_)
  · exact wX7_has_s16 C n st res (it hf q) H locs ls (lv_sub hl [] rfl) hP hS
  · exact wX7_has_s12 C n st res (ie hf q) H locs ls (lv_sub hl [] rfl) hP hS
def fX7_has_s0 (n : Nat)   (v1 : Int32) (st : St) : Option (Int32 × St) := if v1 < 0 then fX7_has_s16 n st else fX7_has_s4 n v1 st
set_option maxHeartbeats 4000000 in
set_option maxRecDepth 100000 in
theorem wX7_has_s0 (C : Cx p s m args meth c cX7_has 2 wsL_law RX7 (some .boolean) D G ad) (n : Nat)   (v1 : Int32)   (st : St) (res : (Int32 × St))  (hf : fX7_has_s0 n   v1 st = some res) : At p l e (rmK 0) s m args below meth c D G ad (MQI D G ad below args s res) 2 st [(0, .ref (ad 11)), (1, .int v1)] 0 [] := by
  obtain ⟨hx, hb, hml, hown, hts, hr, hlk, hK, had, hSt⟩ := id C
  intro H locs ls hl hP hS
  unfold fX7_has_s0 at hf
  refine lv_iload_n hx hb dX7_has_0 rfl (lv_at hl 1 rfl) ?_
  refine lv_if_lt (tgt := 16) hx hb dX7_has_1 (by decide) (fun q => ?_) (fun q => ?_)
  · exact wX7_has_s16 C n st res (it hf q) H locs ls (lv_sub hl [] rfl) hP hS
  · exact wX7_has_s4 C n v1 st res (ie hf q) H locs ls (lv_sub hl [0, 1] rfl) hP hS
def fX7_has (n : Nat)  (a1 : Int32) (st : St) : Option (Int32 × St) := fX7_has_s0 n a1 st
theorem okX7_has : okY yX7_has RX7 1 := by unfold okY; decide +kernel
end
set_option maxRecDepth 100000 in
theorem kX7_has (l : Launch) (D : va_G) (G : G3) (ad : Nat → Nat) (had : Adr ad) (n : Nat)   (a1 : Int32) (st : St) (res : (Int32 × St)) (hf : fX7_has n  a1 st = some res) {sz : Nat} : CtI l yX7_has (wsU yX7_has cX7_has 2 (some .boolean)) (rmK 0) D G ad sz [.ref (ad 11), .int a1] st res := by
  refine Met.ofW (cc := cX7_has) (maxL := 2) (ret := (some .boolean)) (by decide) rfl ?_
  intro p e s m args below meth c s₁ B hml hv
  obtain ⟨rfl, hsz, hP, hK, hSt⟩ := hv
  have hts := atoms_spec (ws := wsU yX7_has cX7_has 2 (some .boolean)) B.pre
  have C : Cx p s m _ meth c cX7_has 2 wsL_law RX7 (some .boolean) D G ad := ⟨B.exec, B.bytes, hml, findClass_of_methodNamed B.named, fun w h => hts w (List.mem_cons_of_mem _ h), B.returns, B.notSynchronized, hK, had, hSt⟩
  subst hsz
  have hl := lv_entry ([.ref (ad 11), .int a1]) (n := 2) (Nat.le_of_ble_eq_true rfl)
  rw [lg_entry_eq]
  generalize (lg_sl ([.ref (ad 11), .int a1]) ++ List.replicate (2 - (lg_sl ([.ref (ad 11), .int a1])).length) Slot.unset).toArray = ls at hl ⊢
  exact wX7_has_s0 C n  a1   st res hf s.heap [] ls (lv_sub hl [0, 1] rfl) hP va_S.rf
section
variable {p : Program} {l : Launch} {e : Env} {s : State} {m : MethodId} {args : Array Value} {below : List Frame} {meth : Method} {c : Code} {D : va_G} {G : G3} {ad : Nat → Nat}
def fX7_keep_s45 (n : Nat)   (v3 : Int32) (st : St) : Option (Int32 × St) := some (v3, st)
set_option maxHeartbeats 4000000 in
set_option maxRecDepth 100000 in
theorem wX7_keep_s45 (C : Cx p s m args meth c cX7_keep 4 wsL_law RX7 (some .int) D G ad) (n : Nat)   (v3 : Int32)   (st : St) (res : (Int32 × St))  (hf : fX7_keep_s45 n   v3 st = some res) : At p l e (rmK 1) s m args below meth c D G ad (MQI D G ad below args s res) 4 st [(3, .int v3)] 45 [] := by
  obtain ⟨hx, hb, hml, hown, hts, hr, hlk, hK, had, hSt⟩ := id C
  intro H locs ls hl hP hS
  unfold fX7_keep_s45 at hf
  refine lv_iload_n hx hb dX7_keep_45 rfl (lv_at hl 0 rfl) ?_
  exact g_iret hx hb hr hlk hP hS dX7_keep_46 hf
def fX7_keep_s35 (n : Nat)   (v3 : Int32) (st : St) : Option (Int32 × St) := fX7_keep_s45 n v3 (setI st 11 3 ((st.1 11 3) + 1))
set_option maxHeartbeats 4000000 in
set_option maxRecDepth 100000 in
theorem wX7_keep_s35 (C : Cx p s m args meth c cX7_keep 4 wsL_law RX7 (some .int) D G ad) (n : Nat)   (v3 : Int32)   (st : St) (res : (Int32 × St))  (hf : fX7_keep_s35 n   v3 st = some res) : At p l e (rmK 1) s m args below meth c D G ad (MQI D G ad below args s res) 4 st [(0, .ref (ad 11)), (3, .int v3)] 35 [] := by
  obtain ⟨hx, hb, hml, hown, hts, hr, hlk, hK, had, hSt⟩ := id C
  intro H locs ls hl hP hS
  unfold fX7_keep_s35 at hf
  refine lv_aload_n hx hb dX7_keep_35 rfl (lv_at hl 0 rfl) ?_
  refine lv_dup hx hb dX7_keep_36 rfl ?_
  refine g_getI hx hb hts inlX7 hown hK hP 11 ct_11 rfl 3 (by decide) (hts _ wm_11_23) rfl dX7_keep_37 ?_
  refine lv_iconst (v := 1) hx hb dX7_keep_40 (by decide) ?_
  refine lv_iadd hx hb dX7_keep_41 ?_
  refine g_putI hx hb hts inlX7 tyX7_ok nmX7 hown hK had hP hS 11 ct_11 rfl 3 (by decide) (hts _ wm_11_23) rfl rfl rfl rfl rfl dX7_keep_42 (fun H locs hP hS => ?_)
  exact wX7_keep_s45 C n v3 (setI st 11 3 ((st.1 11 3) + 1)) res hf H locs ls (lv_sub hl [1] rfl) hP hS
def fX7_keep_s28 (n : Nat)   (v2 : Int32) (v3 : Int32) (st : St) : Option (Int32 × St) := if inb v3 12 = true then (fX7_keep_s35 n v3 (setI st 13 v3.toNatClampNeg v2)) else none
set_option maxHeartbeats 4000000 in
set_option maxRecDepth 100000 in
theorem wX7_keep_s28 (C : Cx p s m args meth c cX7_keep 4 wsL_law RX7 (some .int) D G ad) (n : Nat)   (v2 : Int32) (v3 : Int32)   (st : St) (res : (Int32 × St))  (hf : fX7_keep_s28 n   v2 v3 st = some res) : At p l e (rmK 1) s m args below meth c D G ad (MQI D G ad below args s res) 4 st [(0, .ref (ad 11)), (2, .int v2), (3, .int v3)] 28 [] := by
  obtain ⟨hx, hb, hml, hown, hts, hr, hlk, hK, had, hSt⟩ := id C
  intro H locs ls hl hP hS
  unfold fX7_keep_s28 at hf
  refine lv_aload_n hx hb dX7_keep_28 rfl (lv_at hl 0 rfl) ?_
  refine g_getR hx hb hts inlX7 hown hK hP 11 ct_11 rfl 1 (by decide) (hts _ wm_4_4) rfl dX7_keep_29 ?_
  refine lv_iload_n hx hb dX7_keep_32 rfl (lv_at hl 2 rfl) ?_
  refine lv_iload_n hx hb dX7_keep_33 rfl (lv_at hl 1 rfl) ?_
  obtain ⟨g1, hf⟩ := gd hf
  refine g_iast hx hb hK had hP hS 13 ct_13 g1 dX7_keep_34 (fun H locs hP hS => ?_)
  exact wX7_keep_s35 C n v3 (setI st 13 v3.toNatClampNeg v2) res hf H locs ls (lv_sub hl [0, 2] rfl) hP hS
def fX7_keep_s14 (n : Nat)   (v2 : Int32) (v3 : Int32) (st : St) : Option (Int32 × St) := if cpok 0 (v3 * 120) v2 120 1440 = true then (fX7_keep_s28 n v2 v3 (rowI st 12 (va_cpy (st.1 17) (st.1 12) (0 : Int32).toNatClampNeg (v3 * 120).toNatClampNeg v2.toNatClampNeg))) else none
set_option maxHeartbeats 4000000 in
set_option maxRecDepth 100000 in
theorem wX7_keep_s14 (C : Cx p s m args meth c cX7_keep 4 wsL_law RX7 (some .int) D G ad) (n : Nat)   (v2 : Int32) (v3 : Int32)   (st : St) (res : (Int32 × St))  (hf : fX7_keep_s14 n   v2 v3 st = some res) : At p l e (rmK 1) s m args below meth c D G ad (MQI D G ad below args s res) 4 st [(0, .ref (ad 11)), (1, .ref (ad 17)), (2, .int v2), (3, .int v3)] 14 [] := by
  obtain ⟨hx, hb, hml, hown, hts, hr, hlk, hK, had, hSt⟩ := id C
  intro H locs ls hl hP hS
  unfold fX7_keep_s14 at hf
  refine lv_aload_n hx hb dX7_keep_14 rfl (lv_at hl 1 rfl) ?_
  refine lv_iconst (v := 0) hx hb dX7_keep_15 (by decide) ?_
  refine lv_aload_n hx hb dX7_keep_16 rfl (lv_at hl 0 rfl) ?_
  refine g_getR hx hb hts inlX7 hown hK hP 11 ct_11 rfl 0 (by decide) (hts _ wm_4_3) rfl dX7_keep_17 ?_
  refine lv_iload_n hx hb dX7_keep_20 rfl (lv_at hl 3 rfl) ?_
  refine lv_bipush (v := 120) hx hb dX7_keep_21 (by decide) ?_
  refine lv_imul hx hb dX7_keep_23 ?_
  refine lv_iload_n hx hb dX7_keep_24 rfl (lv_at hl 2 rfl) ?_
  obtain ⟨g1, hf⟩ := gd hf
  refine g_copyI hx hb (hml.trans hl.1.symm) hown (hts _ wm_30_1) (hts _ wm_18_3) (hts _ wm_18_4) (hts _ wm_18_5) hK had hP hS 17 ct_17 12 ct_12 g1 (Nat.le_of_ble_eq_true rfl) (Nat.le_of_ble_eq_true rfl) dX7_keep_25 (fun H locs hP hS => ?_)
  exact wX7_keep_s28 C n v2 v3 (rowI st 12 (va_cpy (st.1 17) (st.1 12) (0 : Int32).toNatClampNeg (v3 * 120).toNatClampNeg v2.toNatClampNeg)) res hf H locs ls (lv_sub hl [0, 2, 3] rfl) hP hS
def fX7_keep_s11 (n : Nat)    (st : St) : Option (Int32 × St) := some ((-4), st)
set_option maxHeartbeats 4000000 in
set_option maxRecDepth 100000 in
theorem wX7_keep_s11 (C : Cx p s m args meth c cX7_keep 4 wsL_law RX7 (some .int) D G ad) (n : Nat)      (st : St) (res : (Int32 × St))  (hf : fX7_keep_s11 n    st = some res) : At p l e (rmK 1) s m args below meth c D G ad (MQI D G ad below args s res) 4 st [] 11 [] := by
  obtain ⟨hx, hb, hml, hown, hts, hr, hlk, hK, had, hSt⟩ := id C
  intro H locs ls hl hP hS
  unfold fX7_keep_s11 at hf
  refine lv_bipush (v := (-4)) hx hb dX7_keep_11 (by decide) ?_
  exact g_iret hx hb hr hlk hP hS dX7_keep_13 hf
def fX7_keep_s0 (n : Nat)   (v2 : Int32) (st : St) : Option (Int32 × St) := if (st.1 11 3) < 12 then fX7_keep_s14 n v2 (st.1 11 3) st else fX7_keep_s11 n st
set_option maxHeartbeats 4000000 in
set_option maxRecDepth 100000 in
theorem wX7_keep_s0 (C : Cx p s m args meth c cX7_keep 4 wsL_law RX7 (some .int) D G ad) (n : Nat)   (v2 : Int32)   (st : St) (res : (Int32 × St))  (hf : fX7_keep_s0 n   v2 st = some res) : At p l e (rmK 1) s m args below meth c D G ad (MQI D G ad below args s res) 4 st [(0, .ref (ad 11)), (1, .ref (ad 17)), (2, .int v2)] 0 [] := by
  obtain ⟨hx, hb, hml, hown, hts, hr, hlk, hK, had, hSt⟩ := id C
  intro H locs ls hl hP hS
  unfold fX7_keep_s0 at hf
  refine lv_aload_n hx hb dX7_keep_0 rfl (lv_at hl 0 rfl) ?_
  refine g_getI hx hb hts inlX7 hown hK hP 11 ct_11 rfl 3 (by decide) (hts _ wm_11_23) rfl dX7_keep_1 ?_
  refine lv_istore_n (lv' := [(3, .int (st.1 11 3)), (0, .ref (ad 11)), (1, .ref (ad 17)), (2, .int v2)]) hx hb dX7_keep_4 rfl hl (by decide) rfl (fun ls hl => ?_)
  refine lv_iload_n hx hb dX7_keep_5 rfl (lv_at hl 0 rfl) ?_
  refine lv_bipush (v := 12) hx hb dX7_keep_6 (by decide) ?_
  refine lv_icmp_lt (tgt := 14) hx hb dX7_keep_8 (by decide) (fun q => ?_) (fun q => ?_)
  · exact wX7_keep_s14 C n v2 (st.1 11 3) st res (it hf q) H locs ls (lv_sub hl [1, 2, 3, 0] rfl) hP hS
  · exact wX7_keep_s11 C n st res (ie hf q) H locs ls (lv_sub hl [] rfl) hP hS
def fX7_keep (n : Nat)  (a2 : Int32) (st : St) : Option (Int32 × St) := fX7_keep_s0 n a2 st
theorem okX7_keep : okY yX7_keep RX7 2 := by unfold okY; decide +kernel
end
set_option maxRecDepth 100000 in
theorem kX7_keep (l : Launch) (D : va_G) (G : G3) (ad : Nat → Nat) (had : Adr ad) (n : Nat)   (a2 : Int32) (st : St) (res : (Int32 × St)) (hf : fX7_keep n  a2 st = some res) {sz : Nat} : CtI l yX7_keep (wsU yX7_keep cX7_keep 4 (some .int)) (rmK 1) D G ad sz [.ref (ad 11), .ref (ad 17), .int a2] st res := by
  refine Met.ofW (cc := cX7_keep) (maxL := 4) (ret := (some .int)) (by decide) rfl ?_
  intro p e s m args below meth c s₁ B hml hv
  obtain ⟨rfl, hsz, hP, hK, hSt⟩ := hv
  have hts := atoms_spec (ws := wsU yX7_keep cX7_keep 4 (some .int)) B.pre
  have C : Cx p s m _ meth c cX7_keep 4 wsL_law RX7 (some .int) D G ad := ⟨B.exec, B.bytes, hml, findClass_of_methodNamed B.named, fun w h => hts w (List.mem_cons_of_mem _ h), B.returns, B.notSynchronized, hK, had, hSt⟩
  subst hsz
  have hl := lv_entry ([.ref (ad 11), .ref (ad 17), .int a2]) (n := 4) (Nat.le_of_ble_eq_true rfl)
  rw [lg_entry_eq]
  generalize (lg_sl ([.ref (ad 11), .ref (ad 17), .int a2]) ++ List.replicate (4 - (lg_sl ([.ref (ad 11), .ref (ad 17), .int a2])).length) Slot.unset).toArray = ls at hl ⊢
  exact wX7_keep_s0 C n  a2   st res hf s.heap [] ls (lv_sub hl [0, 1, 2] rfl) hP va_S.rf
section
variable {p : Program} {l : Launch} {e : Env} {s : State} {m : MethodId} {args : Array Value} {below : List Frame} {meth : Method} {c : Code} {D : va_G} {G : G3} {ad : Nat → Nat}
def fX1_mean_s63 (n : Nat)  (b : Nat) (k0 : Int64) (st : St) : Option (Int64 × St) := some (k0, st)
set_option maxHeartbeats 4000000 in
set_option maxRecDepth 100000 in
theorem wX1_mean_s63 (C : Cx p s m args meth c cX1_mean 6 wsL_law RX1 (some .long) D G ad) (n : Nat)  (b : Nat) (k0 : Int64) (ib : isFl b)  (st : St) (res : (Int64 × St))  (hf : fX1_mean_s63 n  b k0 st = some res) : At p l e (rmK 1) s m args below meth c D G ad (MQJ D G ad below args s res) 6 st [] 63 [.long k0] := by
  obtain ⟨hx, hb, hml, hown, hts, hr, hlk, hK, had, hSt⟩ := id C
  intro H locs ls hl hP hS
  unfold fX1_mean_s63 at hf
  exact g_lret hx hb hr hlk hP hS dX1_mean_63 hf
def fX1_mean_s59 (n : Nat)  (b : Nat) (v2 : Int32) (v3 : Int64) (st : St) : Option (Int64 × St) := if v2.toInt64 = 0 then none else (fX1_mean_s63 n b (v3 / v2.toInt64) st)
set_option maxHeartbeats 4000000 in
set_option maxRecDepth 100000 in
theorem wX1_mean_s59 (C : Cx p s m args meth c cX1_mean 6 wsL_law RX1 (some .long) D G ad) (n : Nat)  (b : Nat) (v2 : Int32) (v3 : Int64) (ib : isFl b)  (st : St) (res : (Int64 × St))  (hf : fX1_mean_s59 n  b v2 v3 st = some res) : At p l e (rmK 1) s m args below meth c D G ad (MQJ D G ad below args s res) 6 st [(2, .int v2), (3, .long v3)] 59 [] := by
  obtain ⟨hx, hb, hml, hown, hts, hr, hlk, hK, had, hSt⟩ := id C
  intro H locs ls hl hP hS
  unfold fX1_mean_s59 at hf
  refine lv_lload_n hx hb dX1_mean_59 rfl (lv_at hl 1 rfl) ?_
  refine lv_iload_n hx hb dX1_mean_60 rfl (lv_at hl 0 rfl) ?_
  refine lv_i2l hx hb dX1_mean_61 rfl ?_
  obtain ⟨g1, hf⟩ := gn hf
  refine lv_ldiv hx hb dX1_mean_62 g1 ?_
  exact wX1_mean_s63 C n b (v3 / v2.toInt64) ib st res hf H locs ls (lv_sub hl [] rfl) hP hS
def fX1_mean_s55 (n : Nat)  (b : Nat)  (st : St) : Option (Int64 × St) := fX1_mean_s63 n b 0 st
set_option maxHeartbeats 4000000 in
set_option maxRecDepth 100000 in
theorem wX1_mean_s55 (C : Cx p s m args meth c cX1_mean 6 wsL_law RX1 (some .long) D G ad) (n : Nat)  (b : Nat)  (ib : isFl b)  (st : St) (res : (Int64 × St))  (hf : fX1_mean_s55 n  b  st = some res) : At p l e (rmK 1) s m args below meth c D G ad (MQJ D G ad below args s res) 6 st [] 55 [] := by
  obtain ⟨hx, hb, hml, hown, hts, hr, hlk, hK, had, hSt⟩ := id C
  intro H locs ls hl hP hS
  unfold fX1_mean_s55 at hf
  refine lv_lconst (v := 0) hx hb dX1_mean_55 (by decide) ?_
  refine lv_goto (tgt := 63) hx hb dX1_mean_56 (by decide) ?_
  exact wX1_mean_s63 C n b 0 ib st res hf H locs ls (lv_sub hl [] rfl) hP hS
def fX1_mean_s51 (n : Nat)  (b : Nat) (v2 : Int32) (v3 : Int64) (st : St) : Option (Int64 × St) := if v2 = 0 then fX1_mean_s55 n b st else fX1_mean_s59 n b v2 v3 st
set_option maxHeartbeats 4000000 in
set_option maxRecDepth 100000 in
theorem wX1_mean_s51 (C : Cx p s m args meth c cX1_mean 6 wsL_law RX1 (some .long) D G ad) (n : Nat)  (b : Nat) (v2 : Int32) (v3 : Int64) (ib : isFl b)  (st : St) (res : (Int64 × St))  (hf : fX1_mean_s51 n  b v2 v3 st = some res) : At p l e (rmK 1) s m args below meth c D G ad (MQJ D G ad below args s res) 6 st [(2, .int v2), (3, .long v3)] 51 [] := by
  obtain ⟨hx, hb, hml, hown, hts, hr, hlk, hK, had, hSt⟩ := id C
  intro H locs ls hl hP hS
  unfold fX1_mean_s51 at hf
  refine lv_iload_n hx hb dX1_mean_51 rfl (lv_at hl 0 rfl) ?_
  refine lv_if_ne (tgt := 59) hx hb dX1_mean_52 (by decide) (fun q => ?_) (fun q => ?_)
  · exact wX1_mean_s59 C n b v2 v3 ib st res (ie hf q) H locs ls (lv_sub hl [0, 1] rfl) hP hS
  · exact wX1_mean_s55 C n b ib st res (it hf q) H locs ls (lv_sub hl [] rfl) hP hS
def fX1_mean_s28 (n : Nat) (K19 : Int32 → Int32 → Int64 → Int32 → St → Option (Int64 × St)) (b : Nat) (v1 : Int32) (v2 : Int32) (v3 : Int64) (v5 : Int32) (st : St) : Option (Int64 × St) := if inb ((v1 * 4) + (v5 - v5 / 4 * 4)) 32 = true then (K19 v1 v2 (v3 + ((st.1 (b + 8) ((v1 * 4) + (v5 - v5 / 4 * 4)).toNatClampNeg).toInt64)) (v5 + 1) st) else none
set_option maxHeartbeats 4000000 in
set_option maxRecDepth 100000 in
theorem wX1_mean_s28 (C : Cx p s m args meth c cX1_mean 6 wsL_law RX1 (some .long) D G ad) (n : Nat) (K19 : Int32 → Int32 → Int64 → Int32 → St → Option (Int64 × St)) (b : Nat) (v1 : Int32) (v2 : Int32) (v3 : Int64) (v5 : Int32) (ib : isFl b)  (st : St) (res : (Int64 × St)) (hK19 : ∀ (v1 : Int32) (v2 : Int32) (v3 : Int64) (v5 : Int32) (st : St), K19 v1 v2 v3 v5 st = some res → At p l e (rmK 1) s m args below meth c D G ad (MQJ D G ad below args s res) 6 st [(0, .ref (ad b)), (1, .int v1), (2, .int v2), (3, .long v3), (5, .int v5)] 19 []) (hf : fX1_mean_s28 n K19 b v1 v2 v3 v5 st = some res) : At p l e (rmK 1) s m args below meth c D G ad (MQJ D G ad below args s res) 6 st [(0, .ref (ad b)), (1, .int v1), (2, .int v2), (3, .long v3), (5, .int v5)] 28 [] := by
  obtain ⟨hx, hb, hml, hown, hts, hr, hlk, hK, had, hSt⟩ := id C
  intro H locs ls hl hP hS
  unfold fX1_mean_s28 at hf
  refine lv_lload_n hx hb dX1_mean_28 rfl (lv_at hl 3 rfl) ?_
  refine lv_aload_n hx hb dX1_mean_29 rfl (lv_at hl 0 rfl) ?_
  refine g_getR hx hb hts inlX1 hown hK hP b (fl_0 ib) rfl 7 (by decide) (hts _ wm_6_19) rfl dX1_mean_30 ?_
  refine lv_iload_n hx hb dX1_mean_33 rfl (lv_at hl 1 rfl) ?_
  refine lv_iconst (v := 4) hx hb dX1_mean_34 (by decide) ?_
  refine lv_imul hx hb dX1_mean_35 ?_
  refine lv_iload hx hb dX1_mean_36 (lv_at hl 4 rfl) ?_
  refine lv_iconst (v := 4) hx hb dX1_mean_38 (by decide) ?_
  refine lv_irem hx hb dX1_mean_39 (by decide) ?_
  refine lv_iadd hx hb dX1_mean_40 ?_
  obtain ⟨g1, hf⟩ := gd hf
  refine g_iald hx hb hK hP (b + 8) (fl_8 ib) g1 dX1_mean_41 ?_
  refine lv_i2l hx hb dX1_mean_42 rfl ?_
  refine lv_ladd hx hb dX1_mean_43 ?_
  refine lv_lstore_n (lv' := [(3, .long (v3 + ((st.1 (b + 8) ((v1 * 4) + (v5 - v5 / 4 * 4)).toNatClampNeg).toInt64))), (0, .ref (ad b)), (1, .int v1), (2, .int v2), (5, .int v5)]) hx hb dX1_mean_44 rfl hl (by decide) rfl (fun ls hl => ?_)
  refine lv_iinc (v := v5 + 1) (lv' := [(5, .int (v5 + 1)), (3, .long (v3 + ((st.1 (b + 8) ((v1 * 4) + (v5 - v5 / 4 * 4)).toNatClampNeg).toInt64))), (0, .ref (ad b)), (1, .int v1), (2, .int v2)]) hx hb dX1_mean_45 hl (k := 4) rfl rfl (by decide) rfl (fun ls hl => ?_)
  refine lv_goto (tgt := 19) hx hb dX1_mean_48 (by decide) ?_
  exact hK19 v1 v2 (v3 + ((st.1 (b + 8) ((v1 * 4) + (v5 - v5 / 4 * 4)).toNatClampNeg).toInt64)) (v5 + 1)  st hf H locs ls (lv_sub hl [2, 3, 4, 1, 0] rfl) hP hS
def fX1_mean_s19 (n : Nat) (K19 : Int32 → Int32 → Int64 → Int32 → St → Option (Int64 × St)) (b : Nat) (v1 : Int32) (v2 : Int32) (v3 : Int64) (v5 : Int32) (st : St) : Option (Int64 × St) := if (st.1 b 10) ≤ v5 then fX1_mean_s51 n b v2 v3 st else fX1_mean_s28 n K19 b v1 v2 v3 v5 st
set_option maxHeartbeats 4000000 in
set_option maxRecDepth 100000 in
theorem wX1_mean_s19 (C : Cx p s m args meth c cX1_mean 6 wsL_law RX1 (some .long) D G ad) (n : Nat) (K19 : Int32 → Int32 → Int64 → Int32 → St → Option (Int64 × St)) (b : Nat) (v1 : Int32) (v2 : Int32) (v3 : Int64) (v5 : Int32) (ib : isFl b)  (st : St) (res : (Int64 × St)) (hK19 : ∀ (v1 : Int32) (v2 : Int32) (v3 : Int64) (v5 : Int32) (st : St), K19 v1 v2 v3 v5 st = some res → At p l e (rmK 1) s m args below meth c D G ad (MQJ D G ad below args s res) 6 st [(0, .ref (ad b)), (1, .int v1), (2, .int v2), (3, .long v3), (5, .int v5)] 19 []) (hf : fX1_mean_s19 n K19 b v1 v2 v3 v5 st = some res) : At p l e (rmK 1) s m args below meth c D G ad (MQJ D G ad below args s res) 6 st [(0, .ref (ad b)), (1, .int v1), (2, .int v2), (3, .long v3), (5, .int v5)] 19 [] := by
  obtain ⟨hx, hb, hml, hown, hts, hr, hlk, hK, had, hSt⟩ := id C
  intro H locs ls hl hP hS
  unfold fX1_mean_s19 at hf
  refine lv_iload hx hb dX1_mean_19 (lv_at hl 4 rfl) ?_
  refine lv_aload_n hx hb dX1_mean_21 rfl (lv_at hl 0 rfl) ?_
  refine g_getI hx hb hts inlX1 hown hK hP b (fl_0 ib) rfl 10 (by decide) (hts _ wm_13_12) rfl dX1_mean_22 ?_
  refine lv_icmp_ge (tgt := 51) hx hb dX1_mean_25 (by decide) (fun q => ?_) (fun q => ?_)
  · exact wX1_mean_s51 C n b v2 v3 ib st res (it hf q) H locs ls (lv_sub hl [2, 3] rfl) hP hS
  · exact wX1_mean_s28 C n K19 b v1 v2 v3 v5 ib st res hK19 (ie hf q) H locs ls (lv_sub hl [0, 1, 2, 3, 4] rfl) hP hS
def fX1_mean_L19 (n : Nat)  (b : Nat) : Nat → Int32 → Int32 → Int64 → Int32 → St → Option (Int64 × St)
  | 0, _, _, _, _, _ => none
  | k + 1, v1, v2, v3, v5, st => fX1_mean_s19 n (fX1_mean_L19 n b k) b v1 v2 v3 v5 st
theorem wX1_mean_L19 (C : Cx p s m args meth c cX1_mean 6 wsL_law RX1 (some .long) D G ad) (n : Nat)  (b : Nat) (ib : isFl b) (res : (Int64 × St))  : ∀ (k : Nat) (v1 : Int32) (v2 : Int32) (v3 : Int64) (v5 : Int32)  (st : St), fX1_mean_L19 n b k v1 v2 v3 v5 st = some res → At p l e (rmK 1) s m args below meth c D G ad (MQJ D G ad below args s res) 6 st [(0, .ref (ad b)), (1, .int v1), (2, .int v2), (3, .long v3), (5, .int v5)] 19 [] := by
  intro k
  induction k with
  | zero => intro v1 v2 v3 v5  st h; exact absurd h (by intro q; cases q)
  | succ k ih => intro v1 v2 v3 v5  st h; exact wX1_mean_s19 C n (fX1_mean_L19 n b k) b v1 v2 v3 v5 ib  st res ih h
def fX1_mean_s0 (n : Nat)  (b : Nat) (v1 : Int32) (st : St) : Option (Int64 × St) := fX1_mean_L19 n b n v1 (if (st.1 b 10) < 4 then (st.1 b 10) else 4) 0 ((st.1 b 10) - (if (st.1 b 10) < 4 then (st.1 b 10) else 4)) st
set_option maxHeartbeats 4000000 in
set_option maxRecDepth 100000 in
theorem wX1_mean_s0 (C : Cx p s m args meth c cX1_mean 6 wsL_law RX1 (some .long) D G ad) (n : Nat)  (b : Nat) (v1 : Int32) (ib : isFl b)  (st : St) (res : (Int64 × St))  (hf : fX1_mean_s0 n  b v1 st = some res) : At p l e (rmK 1) s m args below meth c D G ad (MQJ D G ad below args s res) 6 st [(0, .ref (ad b)), (1, .int v1)] 0 [] := by
  obtain ⟨hx, hb, hml, hown, hts, hr, hlk, hK, had, hSt⟩ := id C
  intro H locs ls hl hP hS
  unfold fX1_mean_s0 at hf
  refine lv_iconst (v := 4) hx hb dX1_mean_0 (by decide) ?_
  refine lv_aload_n hx hb dX1_mean_1 rfl (lv_at hl 0 rfl) ?_
  refine g_getI hx hb hts inlX1 hown hK hP b (fl_0 ib) rfl 10 (by decide) (hts _ wm_13_12) rfl dX1_mean_2 ?_
  refine va_mmin hx hb (hml.trans hl.1.symm) hown (hts _ wm_18_18) (hts _ wm_18_19) (hts _ wm_18_20) (hts _ wm_18_21) (Nat.le_of_ble_eq_true rfl) (Nat.le_of_ble_eq_true rfl) (Nat.zero_le _) (Nat.zero_le _) dX1_mean_5 ?_
  refine lv_istore_n (lv' := [(2, .int (if (st.1 b 10) < 4 then (st.1 b 10) else 4)), (0, .ref (ad b)), (1, .int v1)]) hx hb dX1_mean_8 rfl hl (by decide) rfl (fun ls hl => ?_)
  refine lv_lconst (v := 0) hx hb dX1_mean_9 (by decide) ?_
  refine lv_lstore_n (lv' := [(3, .long 0), (2, .int (if (st.1 b 10) < 4 then (st.1 b 10) else 4)), (0, .ref (ad b)), (1, .int v1)]) hx hb dX1_mean_10 rfl hl (by decide) rfl (fun ls hl => ?_)
  refine lv_aload_n hx hb dX1_mean_11 rfl (lv_at hl 2 rfl) ?_
  refine g_getI hx hb hts inlX1 hown hK hP b (fl_0 ib) rfl 10 (by decide) (hts _ wm_13_12) rfl dX1_mean_12 ?_
  refine lv_iload_n hx hb dX1_mean_15 rfl (lv_at hl 1 rfl) ?_
  refine lv_isub hx hb dX1_mean_16 ?_
  refine lv_istore (lv' := [(5, .int ((st.1 b 10) - (if (st.1 b 10) < 4 then (st.1 b 10) else 4))), (3, .long 0), (2, .int (if (st.1 b 10) < 4 then (st.1 b 10) else 4)), (0, .ref (ad b)), (1, .int v1)]) hx hb dX1_mean_17 hl (by decide) rfl (fun ls hl => ?_)
  exact wX1_mean_L19 C n b ib res n v1 (if (st.1 b 10) < 4 then (st.1 b 10) else 4) 0 ((st.1 b 10) - (if (st.1 b 10) < 4 then (st.1 b 10) else 4)) st hf H locs ls (lv_sub hl [3, 4, 2, 1, 0] rfl) hP hS
def fX1_mean (n : Nat) (b : Nat) (a1 : Int32) (st : St) : Option (Int64 × St) := fX1_mean_s0 n b a1 st
theorem okX1_mean : okY yX1_mean RX1 1 := by unfold okY; decide +kernel
end
set_option maxRecDepth 100000 in
theorem kX1_mean (l : Launch) (D : va_G) (G : G3) (ad : Nat → Nat) (had : Adr ad) (n : Nat) (b : Nat) (ib : isFl b) (a1 : Int32) (st : St) (res : (Int64 × St)) (hf : fX1_mean n b a1 st = some res) {sz : Nat} : CtJ l yX1_mean (wsU yX1_mean cX1_mean 6 (some .long)) (rmK 1) D G ad sz [.ref (ad b), .int a1] st res := by
  refine Met.ofW (cc := cX1_mean) (maxL := 6) (ret := (some .long)) (by decide) rfl ?_
  intro p e s m args below meth c s₁ B hml hv
  obtain ⟨rfl, hsz, hP, hK, hSt⟩ := hv
  have hts := atoms_spec (ws := wsU yX1_mean cX1_mean 6 (some .long)) B.pre
  have C : Cx p s m _ meth c cX1_mean 6 wsL_law RX1 (some .long) D G ad := ⟨B.exec, B.bytes, hml, findClass_of_methodNamed B.named, fun w h => hts w (List.mem_cons_of_mem _ h), B.returns, B.notSynchronized, hK, had, hSt⟩
  subst hsz
  have hl := lv_entry ([.ref (ad b), .int a1]) (n := 6) (Nat.le_of_ble_eq_true rfl)
  rw [lg_entry_eq]
  generalize (lg_sl ([.ref (ad b), .int a1]) ++ List.replicate (6 - (lg_sl ([.ref (ad b), .int a1])).length) Slot.unset).toArray = ls at hl ⊢
  exact wX1_mean_s0 C n b a1 ib  st res hf s.heap [] ls (lv_sub hl [0, 1] rfl) hP va_S.rf
section
variable {p : Program} {l : Launch} {e : Env} {s : State} {m : MethodId} {args : Array Value} {below : List Frame} {meth : Method} {c : Code} {D : va_G} {G : G3} {ad : Nat → Nat}
def fX1_position_s0 (n : Nat)  (b : Nat) (v1 : Int32) (st : St) : Option (Int64 × St) := if inb v1 8 = true then (if inb v1 8 = true then (if inb v1 8 = true then (if inb v1 8 = true then (some (((((st.1 (b + 1) v1.toNatClampNeg).toInt64) + ((st.1 (b + 3) v1.toNatClampNeg).toInt64)) + ((st.1 (b + 6) v1.toNatClampNeg).toInt64)) - ((st.1 (b + 4) v1.toNatClampNeg).toInt64), st)) else none) else none) else none) else none
set_option maxHeartbeats 4000000 in
set_option maxRecDepth 100000 in
theorem wX1_position_s0 (C : Cx p s m args meth c cX1_position 2 wsL_law RX1 (some .long) D G ad) (n : Nat)  (b : Nat) (v1 : Int32) (ib : isFl b)  (st : St) (res : (Int64 × St))  (hf : fX1_position_s0 n  b v1 st = some res) : At p l e (rmK 0) s m args below meth c D G ad (MQJ D G ad below args s res) 2 st [(0, .ref (ad b)), (1, .int v1)] 0 [] := by
  obtain ⟨hx, hb, hml, hown, hts, hr, hlk, hK, had, hSt⟩ := id C
  intro H locs ls hl hP hS
  unfold fX1_position_s0 at hf
  refine lv_aload_n hx hb dX1_position_0 rfl (lv_at hl 0 rfl) ?_
  refine g_getR hx hb hts inlX1 hown hK hP b (fl_0 ib) rfl 0 (by decide) (hts _ wm_6_12) rfl dX1_position_1 ?_
  refine lv_iload_n hx hb dX1_position_4 rfl (lv_at hl 1 rfl) ?_
  obtain ⟨g1, hf⟩ := gd hf
  refine g_iald hx hb hK hP (b + 1) (fl_1 ib) g1 dX1_position_5 ?_
  refine lv_i2l hx hb dX1_position_6 rfl ?_
  refine lv_aload_n hx hb dX1_position_7 rfl (lv_at hl 0 rfl) ?_
  refine g_getR hx hb hts inlX1 hown hK hP b (fl_0 ib) rfl 2 (by decide) (hts _ wm_6_14) rfl dX1_position_8 ?_
  refine lv_iload_n hx hb dX1_position_11 rfl (lv_at hl 1 rfl) ?_
  obtain ⟨g2, hf⟩ := gd hf
  refine g_iald hx hb hK hP (b + 3) (fl_3 ib) g2 dX1_position_12 ?_
  refine lv_i2l hx hb dX1_position_13 rfl ?_
  refine lv_ladd hx hb dX1_position_14 ?_
  refine lv_aload_n hx hb dX1_position_15 rfl (lv_at hl 0 rfl) ?_
  refine g_getR hx hb hts inlX1 hown hK hP b (fl_0 ib) rfl 5 (by decide) (hts _ wm_6_17) rfl dX1_position_16 ?_
  refine lv_iload_n hx hb dX1_position_19 rfl (lv_at hl 1 rfl) ?_
  obtain ⟨g3, hf⟩ := gd hf
  refine g_iald hx hb hK hP (b + 6) (fl_6 ib) g3 dX1_position_20 ?_
  refine lv_i2l hx hb dX1_position_21 rfl ?_
  refine lv_ladd hx hb dX1_position_22 ?_
  refine lv_aload_n hx hb dX1_position_23 rfl (lv_at hl 0 rfl) ?_
  refine g_getR hx hb hts inlX1 hown hK hP b (fl_0 ib) rfl 3 (by decide) (hts _ wm_6_15) rfl dX1_position_24 ?_
  refine lv_iload_n hx hb dX1_position_27 rfl (lv_at hl 1 rfl) ?_
  obtain ⟨g4, hf⟩ := gd hf
  refine g_iald hx hb hK hP (b + 4) (fl_4 ib) g4 dX1_position_28 ?_
  refine lv_i2l hx hb dX1_position_29 rfl ?_
  refine lv_lsub hx hb dX1_position_30 ?_
  exact g_lret hx hb hr hlk hP hS dX1_position_31 hf
def fX1_position (n : Nat) (b : Nat) (a1 : Int32) (st : St) : Option (Int64 × St) := fX1_position_s0 n b a1 st
theorem okX1_position : okY yX1_position RX1 1 := by unfold okY; decide +kernel
end
set_option maxRecDepth 100000 in
theorem kX1_position (l : Launch) (D : va_G) (G : G3) (ad : Nat → Nat) (had : Adr ad) (n : Nat) (b : Nat) (ib : isFl b) (a1 : Int32) (st : St) (res : (Int64 × St)) (hf : fX1_position n b a1 st = some res) {sz : Nat} : CtJ l yX1_position (wsU yX1_position cX1_position 2 (some .long)) (rmK 0) D G ad sz [.ref (ad b), .int a1] st res := by
  refine Met.ofW (cc := cX1_position) (maxL := 2) (ret := (some .long)) (by decide) rfl ?_
  intro p e s m args below meth c s₁ B hml hv
  obtain ⟨rfl, hsz, hP, hK, hSt⟩ := hv
  have hts := atoms_spec (ws := wsU yX1_position cX1_position 2 (some .long)) B.pre
  have C : Cx p s m _ meth c cX1_position 2 wsL_law RX1 (some .long) D G ad := ⟨B.exec, B.bytes, hml, findClass_of_methodNamed B.named, fun w h => hts w (List.mem_cons_of_mem _ h), B.returns, B.notSynchronized, hK, had, hSt⟩
  subst hsz
  have hl := lv_entry ([.ref (ad b), .int a1]) (n := 2) (Nat.le_of_ble_eq_true rfl)
  rw [lg_entry_eq]
  generalize (lg_sl ([.ref (ad b), .int a1]) ++ List.replicate (2 - (lg_sl ([.ref (ad b), .int a1])).length) Slot.unset).toArray = ls at hl ⊢
  exact wX1_position_s0 C n b a1 ib  st res hf s.heap [] ls (lv_sub hl [0, 1] rfl) hP va_S.rf
section
variable {p : Program} {l : Launch} {e : Env} {s : State} {m : MethodId} {args : Array Value} {below : List Frame} {meth : Method} {c : Code} {D : va_G} {G : G3} {ad : Nat → Nat}
def fX1_field_s40 (n : Nat)  (b : Nat) (v2 : Int32) (st : St) : Option (Int64 × St) := if inb v2 8 = true then (some ((st.1 (b + 1) v2.toNatClampNeg).toInt64, st)) else none
set_option maxHeartbeats 4000000 in
set_option maxRecDepth 100000 in
theorem wX1_field_s40 (C : Cx p s m args meth c cX1_field 3 wsL_law RX1 (some .long) D G ad) (n : Nat)  (b : Nat) (v2 : Int32) (ib : isFl b)  (st : St) (res : (Int64 × St))  (hf : fX1_field_s40 n  b v2 st = some res) : At p l e (rmK 2) s m args below meth c D G ad (MQJ D G ad below args s res) 3 st [(0, .ref (ad b)), (2, .int v2)] 40 [] := by
  obtain ⟨hx, hb, hml, hown, hts, hr, hlk, hK, had, hSt⟩ := id C
  intro H locs ls hl hP hS
  unfold fX1_field_s40 at hf
  refine lv_aload_n hx hb dX1_field_40 rfl (lv_at hl 0 rfl) ?_
  refine g_getR hx hb hts inlX1 hown hK hP b (fl_0 ib) rfl 0 (by decide) (hts _ wm_6_12) rfl dX1_field_41 ?_
  refine lv_iload_n hx hb dX1_field_44 rfl (lv_at hl 1 rfl) ?_
  obtain ⟨g1, hf⟩ := gd hf
  refine g_iald hx hb hK hP (b + 1) (fl_1 ib) g1 dX1_field_45 ?_
  refine lv_i2l hx hb dX1_field_46 rfl ?_
  exact g_lret hx hb hr hlk hP hS dX1_field_47 hf
def fX1_field_s48 (n : Nat)  (b : Nat) (v2 : Int32) (st : St) : Option (Int64 × St) := if inb v2 8 = true then (some ((st.1 (b + 4) v2.toNatClampNeg).toInt64, st)) else none
set_option maxHeartbeats 4000000 in
set_option maxRecDepth 100000 in
theorem wX1_field_s48 (C : Cx p s m args meth c cX1_field 3 wsL_law RX1 (some .long) D G ad) (n : Nat)  (b : Nat) (v2 : Int32) (ib : isFl b)  (st : St) (res : (Int64 × St))  (hf : fX1_field_s48 n  b v2 st = some res) : At p l e (rmK 2) s m args below meth c D G ad (MQJ D G ad below args s res) 3 st [(0, .ref (ad b)), (2, .int v2)] 48 [] := by
  obtain ⟨hx, hb, hml, hown, hts, hr, hlk, hK, had, hSt⟩ := id C
  intro H locs ls hl hP hS
  unfold fX1_field_s48 at hf
  refine lv_aload_n hx hb dX1_field_48 rfl (lv_at hl 0 rfl) ?_
  refine g_getR hx hb hts inlX1 hown hK hP b (fl_0 ib) rfl 3 (by decide) (hts _ wm_6_15) rfl dX1_field_49 ?_
  refine lv_iload_n hx hb dX1_field_52 rfl (lv_at hl 1 rfl) ?_
  obtain ⟨g1, hf⟩ := gd hf
  refine g_iald hx hb hK hP (b + 4) (fl_4 ib) g1 dX1_field_53 ?_
  refine lv_i2l hx hb dX1_field_54 rfl ?_
  exact g_lret hx hb hr hlk hP hS dX1_field_55 hf
def fX1_field_s56 (n : Nat)  (b : Nat) (v2 : Int32) (st : St) : Option (Int64 × St) := if inb v2 8 = true then (some ((st.1 (b + 3) v2.toNatClampNeg).toInt64, st)) else none
set_option maxHeartbeats 4000000 in
set_option maxRecDepth 100000 in
theorem wX1_field_s56 (C : Cx p s m args meth c cX1_field 3 wsL_law RX1 (some .long) D G ad) (n : Nat)  (b : Nat) (v2 : Int32) (ib : isFl b)  (st : St) (res : (Int64 × St))  (hf : fX1_field_s56 n  b v2 st = some res) : At p l e (rmK 2) s m args below meth c D G ad (MQJ D G ad below args s res) 3 st [(0, .ref (ad b)), (2, .int v2)] 56 [] := by
  obtain ⟨hx, hb, hml, hown, hts, hr, hlk, hK, had, hSt⟩ := id C
  intro H locs ls hl hP hS
  unfold fX1_field_s56 at hf
  refine lv_aload_n hx hb dX1_field_56 rfl (lv_at hl 0 rfl) ?_
  refine g_getR hx hb hts inlX1 hown hK hP b (fl_0 ib) rfl 2 (by decide) (hts _ wm_6_14) rfl dX1_field_57 ?_
  refine lv_iload_n hx hb dX1_field_60 rfl (lv_at hl 1 rfl) ?_
  obtain ⟨g1, hf⟩ := gd hf
  refine g_iald hx hb hK hP (b + 3) (fl_3 ib) g1 dX1_field_61 ?_
  refine lv_i2l hx hb dX1_field_62 rfl ?_
  exact g_lret hx hb hr hlk hP hS dX1_field_63 hf
def fX1_field_s73 (n : Nat)  (b : Nat) (k0 : Int32) (st : St) : Option (Int64 × St) := some (k0.toInt64, st)
set_option maxHeartbeats 4000000 in
set_option maxRecDepth 100000 in
theorem wX1_field_s73 (C : Cx p s m args meth c cX1_field 3 wsL_law RX1 (some .long) D G ad) (n : Nat)  (b : Nat) (k0 : Int32) (ib : isFl b)  (st : St) (res : (Int64 × St))  (hf : fX1_field_s73 n  b k0 st = some res) : At p l e (rmK 2) s m args below meth c D G ad (MQJ D G ad below args s res) 3 st [] 73 [.int k0] := by
  obtain ⟨hx, hb, hml, hown, hts, hr, hlk, hK, had, hSt⟩ := id C
  intro H locs ls hl hP hS
  unfold fX1_field_s73 at hf
  refine lv_i2l hx hb dX1_field_73 rfl ?_
  exact g_lret hx hb hr hlk hP hS dX1_field_74 hf
def fX1_field_s64 (n : Nat)  (b : Nat) (v2 : Int32) (st : St) : Option (Int64 × St) := (fX1_latest n b (b + 8) v2 st).bind (fun q => fX1_field_s73 n b q.1 q.2)
set_option maxHeartbeats 4000000 in
set_option maxRecDepth 100000 in
theorem wX1_field_s64 (C : Cx p s m args meth c cX1_field 3 wsL_law RX1 (some .long) D G ad) (n : Nat)  (b : Nat) (v2 : Int32) (ib : isFl b)  (st : St) (res : (Int64 × St))  (hf : fX1_field_s64 n  b v2 st = some res) : At p l e (rmK 2) s m args below meth c D G ad (MQJ D G ad below args s res) 3 st [(0, .ref (ad b)), (2, .int v2)] 64 [] := by
  obtain ⟨hx, hb, hml, hown, hts, hr, hlk, hK, had, hSt⟩ := id C
  intro H locs ls hl hP hS
  unfold fX1_field_s64 at hf
  refine lv_aload_n hx hb dX1_field_64 rfl (lv_at hl 0 rfl) ?_
  refine lv_aload_n hx hb dX1_field_65 rfl (lv_at hl 0 rfl) ?_
  refine g_getR hx hb hts inlX1 hown hK hP b (fl_0 ib) rfl 7 (by decide) (hts _ wm_6_19) rfl dX1_field_66 ?_
  refine lv_iload_n hx hb dX1_field_69 rfl (lv_at hl 1 rfl) ?_
  obtain ⟨q, hq, hf⟩ := bd hf
  refine gcV_i (k := 0) (o := b) (As := [.ref (ad (b + 8)), .int v2]) (rest := []) hx hb hml hown hts hK hSt hP hS hl.1 (goodV wm_21_0 wm_13_9 wm_13_10 wm_3_6 wm_13_11) okX1_latest (fl_0 ib) rfl rfl (Nat.le_of_ble_eq_true rfl) (Nat.le_of_ble_eq_true rfl) rfl rfl (Nat.le_of_ble_eq_true rfl) dX1_field_70 (kX1_latest l D G ad had n b (b + 8) ib (fl_8 ib) v2 st q hq) (fun H locs hP hS => ?_)
  exact wX1_field_s73 C n b q.1 ib q.2 res hf H locs ls (lv_sub hl [] rfl) hP hS
def fX1_field_s80 (n : Nat)  (b : Nat) (k0 : Int64) (st : St) : Option (Int64 × St) := some (k0, st)
set_option maxHeartbeats 4000000 in
set_option maxRecDepth 100000 in
theorem wX1_field_s80 (C : Cx p s m args meth c cX1_field 3 wsL_law RX1 (some .long) D G ad) (n : Nat)  (b : Nat) (k0 : Int64) (ib : isFl b)  (st : St) (res : (Int64 × St))  (hf : fX1_field_s80 n  b k0 st = some res) : At p l e (rmK 2) s m args below meth c D G ad (MQJ D G ad below args s res) 3 st [] 80 [.long k0] := by
  obtain ⟨hx, hb, hml, hown, hts, hr, hlk, hK, had, hSt⟩ := id C
  intro H locs ls hl hP hS
  unfold fX1_field_s80 at hf
  exact g_lret hx hb hr hlk hP hS dX1_field_80 hf
def fX1_field_s75 (n : Nat)  (b : Nat) (v2 : Int32) (st : St) : Option (Int64 × St) := (fX1_mean n b v2 st).bind (fun q => fX1_field_s80 n b q.1 q.2)
set_option maxHeartbeats 4000000 in
set_option maxRecDepth 100000 in
theorem wX1_field_s75 (C : Cx p s m args meth c cX1_field 3 wsL_law RX1 (some .long) D G ad) (n : Nat)  (b : Nat) (v2 : Int32) (ib : isFl b)  (st : St) (res : (Int64 × St))  (hf : fX1_field_s75 n  b v2 st = some res) : At p l e (rmK 2) s m args below meth c D G ad (MQJ D G ad below args s res) 3 st [(0, .ref (ad b)), (2, .int v2)] 75 [] := by
  obtain ⟨hx, hb, hml, hown, hts, hr, hlk, hK, had, hSt⟩ := id C
  intro H locs ls hl hP hS
  unfold fX1_field_s75 at hf
  refine lv_aload_n hx hb dX1_field_75 rfl (lv_at hl 0 rfl) ?_
  refine lv_iload_n hx hb dX1_field_76 rfl (lv_at hl 1 rfl) ?_
  obtain ⟨q, hq, hf⟩ := bd hf
  refine gcV_j (k := 1) (o := b) (As := [.int v2]) (rest := []) hx hb hml hown hts hK hSt hP hS hl.1 (goodV wm_21_1 wm_21_2 wm_21_3 wm_3_6 wm_21_4) okX1_mean (fl_0 ib) rfl rfl (Nat.le_of_ble_eq_true rfl) (Nat.le_of_ble_eq_true rfl) rfl rfl (Nat.le_of_ble_eq_true rfl) dX1_field_77 (kX1_mean l D G ad had n b ib v2 st q hq) (fun H locs hP hS => ?_)
  exact wX1_field_s80 C n b q.1 ib q.2 res hf H locs ls (lv_sub hl [] rfl) hP hS
def fX1_field_s81 (n : Nat)  (b : Nat)  (st : St) : Option (Int64 × St) := some ((if 0 < ((st.1 b 10) - 1) then ((st.1 b 10) - 1) else 0).toInt64, st)
set_option maxHeartbeats 4000000 in
set_option maxRecDepth 100000 in
theorem wX1_field_s81 (C : Cx p s m args meth c cX1_field 3 wsL_law RX1 (some .long) D G ad) (n : Nat)  (b : Nat)  (ib : isFl b)  (st : St) (res : (Int64 × St))  (hf : fX1_field_s81 n  b  st = some res) : At p l e (rmK 2) s m args below meth c D G ad (MQJ D G ad below args s res) 3 st [(0, .ref (ad b))] 81 [] := by
  obtain ⟨hx, hb, hml, hown, hts, hr, hlk, hK, had, hSt⟩ := id C
  intro H locs ls hl hP hS
  unfold fX1_field_s81 at hf
  refine lv_iconst (v := 0) hx hb dX1_field_81 (by decide) ?_
  refine lv_aload_n hx hb dX1_field_82 rfl (lv_at hl 0 rfl) ?_
  refine g_getI hx hb hts inlX1 hown hK hP b (fl_0 ib) rfl 10 (by decide) (hts _ wm_13_12) rfl dX1_field_83 ?_
  refine lv_iconst (v := 1) hx hb dX1_field_86 (by decide) ?_
  refine lv_isub hx hb dX1_field_87 ?_
  refine va_mmax hx hb (hml.trans hl.1.symm) hown (hts _ wm_20_21) (hts _ wm_20_22) (hts _ wm_18_20) (hts _ wm_20_23) (Nat.le_of_ble_eq_true rfl) (Nat.le_of_ble_eq_true rfl) (Nat.zero_le _) (Nat.zero_le _) dX1_field_88 ?_
  refine lv_i2l hx hb dX1_field_91 rfl ?_
  exact g_lret hx hb hr hlk hP hS dX1_field_92 hf
def fX1_field_s98 (n : Nat)  (b : Nat) (k0 : Int64) (st : St) : Option (Int64 × St) := some (k0, st)
set_option maxHeartbeats 4000000 in
set_option maxRecDepth 100000 in
theorem wX1_field_s98 (C : Cx p s m args meth c cX1_field 3 wsL_law RX1 (some .long) D G ad) (n : Nat)  (b : Nat) (k0 : Int64) (ib : isFl b)  (st : St) (res : (Int64 × St))  (hf : fX1_field_s98 n  b k0 st = some res) : At p l e (rmK 2) s m args below meth c D G ad (MQJ D G ad below args s res) 3 st [] 98 [.long k0] := by
  obtain ⟨hx, hb, hml, hown, hts, hr, hlk, hK, had, hSt⟩ := id C
  intro H locs ls hl hP hS
  unfold fX1_field_s98 at hf
  exact g_lret hx hb hr hlk hP hS dX1_field_98 hf
def fX1_field_s93 (n : Nat)  (b : Nat) (v2 : Int32) (st : St) : Option (Int64 × St) := (fX1_position n b v2 st).bind (fun q => fX1_field_s98 n b q.1 q.2)
set_option maxHeartbeats 4000000 in
set_option maxRecDepth 100000 in
theorem wX1_field_s93 (C : Cx p s m args meth c cX1_field 3 wsL_law RX1 (some .long) D G ad) (n : Nat)  (b : Nat) (v2 : Int32) (ib : isFl b)  (st : St) (res : (Int64 × St))  (hf : fX1_field_s93 n  b v2 st = some res) : At p l e (rmK 2) s m args below meth c D G ad (MQJ D G ad below args s res) 3 st [(0, .ref (ad b)), (2, .int v2)] 93 [] := by
  obtain ⟨hx, hb, hml, hown, hts, hr, hlk, hK, had, hSt⟩ := id C
  intro H locs ls hl hP hS
  unfold fX1_field_s93 at hf
  refine lv_aload_n hx hb dX1_field_93 rfl (lv_at hl 0 rfl) ?_
  refine lv_iload_n hx hb dX1_field_94 rfl (lv_at hl 1 rfl) ?_
  obtain ⟨q, hq, hf⟩ := bd hf
  refine gcV_j (k := 0) (o := b) (As := [.int v2]) (rest := []) hx hb hml hown hts hK hSt hP hS hl.1 (goodV wm_21_5 wm_14_8 wm_14_9 wm_3_6 wm_14_10) okX1_position (fl_0 ib) rfl rfl (Nat.le_of_ble_eq_true rfl) (Nat.le_of_ble_eq_true rfl) rfl rfl (Nat.le_of_ble_eq_true rfl) dX1_field_95 (kX1_position l D G ad had n b ib v2 st q hq) (fun H locs hP hS => ?_)
  exact wX1_field_s98 C n b q.1 ib q.2 res hf H locs ls (lv_sub hl [] rfl) hP hS
def fX1_field_s0 (n : Nat)  (b : Nat) (v1 : Int32) (v2 : Int32) (st : St) : Option (Int64 × St) := if v1 = 0 then fX1_field_s40 n b v2 st else if v1 = 1 then fX1_field_s48 n b v2 st else if v1 = 2 then fX1_field_s56 n b v2 st else if v1 = 3 then fX1_field_s64 n b v2 st else if v1 = 4 then fX1_field_s75 n b v2 st else if v1 = 5 then fX1_field_s81 n b st else fX1_field_s93 n b v2 st
set_option maxHeartbeats 4000000 in
set_option maxRecDepth 100000 in
theorem wX1_field_s0 (C : Cx p s m args meth c cX1_field 3 wsL_law RX1 (some .long) D G ad) (n : Nat)  (b : Nat) (v1 : Int32) (v2 : Int32) (ib : isFl b)  (st : St) (res : (Int64 × St))  (hf : fX1_field_s0 n  b v1 v2 st = some res) : At p l e (rmK 2) s m args below meth c D G ad (MQJ D G ad below args s res) 3 st [(0, .ref (ad b)), (1, .int v1), (2, .int v2)] 0 [] := by
  obtain ⟨hx, hb, hml, hown, hts, hr, hlk, hK, had, hSt⟩ := id C
  intro H locs ls hl hP hS
  unfold fX1_field_s0 at hf
  refine lv_iload_n hx hb dX1_field_0 rfl (lv_at hl 1 rfl) ?_
  by_cases q : v1 = 0
  · rw [q]
    refine lv_tableIn (tgt := 40) hx hb dX1_field_1 (by decide) (by decide) rfl (by decide) ?_
    exact wX1_field_s40 C n b v2 ib st res (it hf q) H locs ls (lv_sub hl [0, 2] rfl) hP hS
  replace hf := ie hf q
  have q0 := q
  clear q
  by_cases q : v1 = 1
  · rw [q]
    refine lv_tableIn (tgt := 48) hx hb dX1_field_1 (by decide) (by decide) rfl (by decide) ?_
    exact wX1_field_s48 C n b v2 ib st res (it hf q) H locs ls (lv_sub hl [0, 2] rfl) hP hS
  replace hf := ie hf q
  have q1 := q
  clear q
  by_cases q : v1 = 2
  · rw [q]
    refine lv_tableIn (tgt := 56) hx hb dX1_field_1 (by decide) (by decide) rfl (by decide) ?_
    exact wX1_field_s56 C n b v2 ib st res (it hf q) H locs ls (lv_sub hl [0, 2] rfl) hP hS
  replace hf := ie hf q
  have q2 := q
  clear q
  by_cases q : v1 = 3
  · rw [q]
    refine lv_tableIn (tgt := 64) hx hb dX1_field_1 (by decide) (by decide) rfl (by decide) ?_
    exact wX1_field_s64 C n b v2 ib st res (it hf q) H locs ls (lv_sub hl [0, 2] rfl) hP hS
  replace hf := ie hf q
  have q3 := q
  clear q
  by_cases q : v1 = 4
  · rw [q]
    refine lv_tableIn (tgt := 75) hx hb dX1_field_1 (by decide) (by decide) rfl (by decide) ?_
    exact wX1_field_s75 C n b v2 ib st res (it hf q) H locs ls (lv_sub hl [0, 2] rfl) hP hS
  replace hf := ie hf q
  have q4 := q
  clear q
  by_cases q : v1 = 5
  · rw [q]
    refine lv_tableIn (tgt := 81) hx hb dX1_field_1 (by decide) (by decide) rfl (by decide) ?_
    exact wX1_field_s81 C n b ib st res (it hf q) H locs ls (lv_sub hl [0] rfl) hP hS
  replace hf := ie hf q
  have q5 := q
  clear q
  have qo : v1.toInt < 0 ∨ 5 < v1.toInt := by
    refine Classical.byContradiction (fun w => ?_)
    have w : v1.toInt = 0 ∨ v1.toInt = 1 ∨ v1.toInt = 2 ∨ v1.toInt = 3 ∨ v1.toInt = 4 ∨ v1.toInt = 5 := by omega
    rcases w with w | w | w | w | w | w
    · exact q0 (Int32.toInt_inj.mp (w.trans (by decide)))
    · exact q1 (Int32.toInt_inj.mp (w.trans (by decide)))
    · exact q2 (Int32.toInt_inj.mp (w.trans (by decide)))
    · exact q3 (Int32.toInt_inj.mp (w.trans (by decide)))
    · exact q4 (Int32.toInt_inj.mp (w.trans (by decide)))
    · exact q5 (Int32.toInt_inj.mp (w.trans (by decide)))
  refine lv_tableOut (tgt := 93) hx hb dX1_field_1 qo (by decide) ?_
  exact wX1_field_s93 C n b v2 ib st res hf H locs ls (lv_sub hl [0, 2] rfl) hP hS
def fX1_field (n : Nat) (b : Nat) (a1 : Int32) (a2 : Int32) (st : St) : Option (Int64 × St) := fX1_field_s0 n b a1 a2 st
theorem okX1_field : okY yX1_field RX1 2 := by unfold okY; decide +kernel
end
set_option maxRecDepth 100000 in
theorem kX1_field (l : Launch) (D : va_G) (G : G3) (ad : Nat → Nat) (had : Adr ad) (n : Nat) (b : Nat) (ib : isFl b) (a1 : Int32) (a2 : Int32) (st : St) (res : (Int64 × St)) (hf : fX1_field n b a1 a2 st = some res) {sz : Nat} : CtJ l yX1_field (wsU yX1_field cX1_field 3 (some .long)) (rmK 2) D G ad sz [.ref (ad b), .int a1, .int a2] st res := by
  refine Met.ofW (cc := cX1_field) (maxL := 3) (ret := (some .long)) (by decide) rfl ?_
  intro p e s m args below meth c s₁ B hml hv
  obtain ⟨rfl, hsz, hP, hK, hSt⟩ := hv
  have hts := atoms_spec (ws := wsU yX1_field cX1_field 3 (some .long)) B.pre
  have C : Cx p s m _ meth c cX1_field 3 wsL_law RX1 (some .long) D G ad := ⟨B.exec, B.bytes, hml, findClass_of_methodNamed B.named, fun w h => hts w (List.mem_cons_of_mem _ h), B.returns, B.notSynchronized, hK, had, hSt⟩
  subst hsz
  have hl := lv_entry ([.ref (ad b), .int a1, .int a2]) (n := 3) (Nat.le_of_ble_eq_true rfl)
  rw [lg_entry_eq]
  generalize (lg_sl ([.ref (ad b), .int a1, .int a2]) ++ List.replicate (3 - (lg_sl ([.ref (ad b), .int a1, .int a2])).length) Slot.unset).toArray = ls at hl ⊢
  exact wX1_field_s0 C n b a1 a2 ib  st res hf s.heap [] ls (lv_sub hl [0, 1, 2] rfl) hP va_S.rf
section
variable {p : Program} {l : Launch} {e : Env} {s : State} {m : MethodId} {args : Array Value} {below : List Frame} {meth : Method} {c : Code} {D : va_G} {G : G3} {ad : Nat → Nat}
def fX7_apply_s62 (n : Nat)   (v1 : Int64) (v3 : Int64) (st : St) : Option (Int64 × St) := some (if v3 < v1 then v3 else v1, st)
set_option maxHeartbeats 4000000 in
set_option maxRecDepth 100000 in
theorem wX7_apply_s62 (C : Cx p s m args meth c cX7_apply 5 wsL_law RX7 (some .long) D G ad) (n : Nat)   (v1 : Int64) (v3 : Int64)   (st : St) (res : (Int64 × St))  (hf : fX7_apply_s62 n   v1 v3 st = some res) : At p l e (rmK 1) s m args below meth c D G ad (MQJ D G ad below args s res) 5 st [(1, .long v1), (3, .long v3)] 62 [] := by
  obtain ⟨hx, hb, hml, hown, hts, hr, hlk, hK, had, hSt⟩ := id C
  intro H locs ls hl hP hS
  unfold fX7_apply_s62 at hf
  refine lv_lload_n hx hb dX7_apply_62 rfl (lv_at hl 0 rfl) ?_
  refine lv_lload_n hx hb dX7_apply_63 rfl (lv_at hl 1 rfl) ?_
  refine va_mmin_long hx hb (hml.trans hl.1.symm) hown (hts _ wm_21_9) (hts _ wm_21_10) (hts _ wm_18_20) (hts _ wm_21_11) (Nat.le_of_ble_eq_true rfl) (Nat.le_of_ble_eq_true rfl) (Nat.zero_le _) (Nat.zero_le _) dX7_apply_64 ?_
  exact g_lret hx hb hr hlk hP hS dX7_apply_67 hf
def fX7_apply_s61 (n : Nat)   (k0 : Int64) (st : St) : Option (Int64 × St) := some (k0, st)
set_option maxHeartbeats 4000000 in
set_option maxRecDepth 100000 in
theorem wX7_apply_s61 (C : Cx p s m args meth c cX7_apply 5 wsL_law RX7 (some .long) D G ad) (n : Nat)   (k0 : Int64)   (st : St) (res : (Int64 × St))  (hf : fX7_apply_s61 n   k0 st = some res) : At p l e (rmK 1) s m args below meth c D G ad (MQJ D G ad below args s res) 5 st [] 61 [.long k0] := by
  obtain ⟨hx, hb, hml, hown, hts, hr, hlk, hK, had, hSt⟩ := id C
  intro H locs ls hl hP hS
  unfold fX7_apply_s61 at hf
  exact g_lret hx hb hr hlk hP hS dX7_apply_61 hf
def fX7_apply_s58 (n : Nat)   (v1 : Int64) (v3 : Int64) (st : St) : Option (Int64 × St) := if v3 = 0 then none else (fX7_apply_s61 n (v1 / v3) st)
set_option maxHeartbeats 4000000 in
set_option maxRecDepth 100000 in
theorem wX7_apply_s58 (C : Cx p s m args meth c cX7_apply 5 wsL_law RX7 (some .long) D G ad) (n : Nat)   (v1 : Int64) (v3 : Int64)   (st : St) (res : (Int64 × St))  (hf : fX7_apply_s58 n   v1 v3 st = some res) : At p l e (rmK 1) s m args below meth c D G ad (MQJ D G ad below args s res) 5 st [(1, .long v1), (3, .long v3)] 58 [] := by
  obtain ⟨hx, hb, hml, hown, hts, hr, hlk, hK, had, hSt⟩ := id C
  intro H locs ls hl hP hS
  unfold fX7_apply_s58 at hf
  refine lv_lload_n hx hb dX7_apply_58 rfl (lv_at hl 0 rfl) ?_
  refine lv_lload_n hx hb dX7_apply_59 rfl (lv_at hl 1 rfl) ?_
  obtain ⟨g1, hf⟩ := gn hf
  refine lv_ldiv hx hb dX7_apply_60 g1 ?_
  exact wX7_apply_s61 C n (v1 / v3) st res hf H locs ls (lv_sub hl [] rfl) hP hS
def fX7_apply_s54 (n : Nat)    (st : St) : Option (Int64 × St) := fX7_apply_s61 n 0 st
set_option maxHeartbeats 4000000 in
set_option maxRecDepth 100000 in
theorem wX7_apply_s54 (C : Cx p s m args meth c cX7_apply 5 wsL_law RX7 (some .long) D G ad) (n : Nat)      (st : St) (res : (Int64 × St))  (hf : fX7_apply_s54 n    st = some res) : At p l e (rmK 1) s m args below meth c D G ad (MQJ D G ad below args s res) 5 st [] 54 [] := by
  obtain ⟨hx, hb, hml, hown, hts, hr, hlk, hK, had, hSt⟩ := id C
  intro H locs ls hl hP hS
  unfold fX7_apply_s54 at hf
  refine lv_lconst (v := 0) hx hb dX7_apply_54 (by decide) ?_
  refine lv_goto (tgt := 61) hx hb dX7_apply_55 (by decide) ?_
  exact wX7_apply_s61 C n 0 st res hf H locs ls (lv_sub hl [] rfl) hP hS
def fX7_apply_s48 (n : Nat)   (v1 : Int64) (v3 : Int64) (st : St) : Option (Int64 × St) := if v3 = 0 then fX7_apply_s54 n st else fX7_apply_s58 n v1 v3 st
set_option maxHeartbeats 4000000 in
set_option maxRecDepth 100000 in
theorem wX7_apply_s48 (C : Cx p s m args meth c cX7_apply 5 wsL_law RX7 (some .long) D G ad) (n : Nat)   (v1 : Int64) (v3 : Int64)   (st : St) (res : (Int64 × St))  (hf : fX7_apply_s48 n   v1 v3 st = some res) : At p l e (rmK 1) s m args below meth c D G ad (MQJ D G ad below args s res) 5 st [(1, .long v1), (3, .long v3)] 48 [] := by
  obtain ⟨hx, hb, hml, hown, hts, hr, hlk, hK, had, hSt⟩ := id C
  intro H locs ls hl hP hS
  unfold fX7_apply_s48 at hf
  refine lv_lload_n hx hb dX7_apply_48 rfl (lv_at hl 1 rfl) ?_
  refine lv_lconst (v := 0) hx hb dX7_apply_49 (by decide) ?_
  refine g_lcmp_ne (tgt := 58) hx hb dX7_apply_50 dX7_apply_51 (by decide) (fun q => ?_) (fun q => ?_)
  · exact wX7_apply_s58 C n v1 v3 st res (ie hf q) H locs ls (lv_sub hl [0, 1] rfl) hP hS
  · exact wX7_apply_s54 C n st res (it hf q) H locs ls (lv_sub hl [] rfl) hP hS
def fX7_apply_s44 (n : Nat)   (v1 : Int64) (v3 : Int64) (st : St) : Option (Int64 × St) := some (v1 * v3, st)
set_option maxHeartbeats 4000000 in
set_option maxRecDepth 100000 in
theorem wX7_apply_s44 (C : Cx p s m args meth c cX7_apply 5 wsL_law RX7 (some .long) D G ad) (n : Nat)   (v1 : Int64) (v3 : Int64)   (st : St) (res : (Int64 × St))  (hf : fX7_apply_s44 n   v1 v3 st = some res) : At p l e (rmK 1) s m args below meth c D G ad (MQJ D G ad below args s res) 5 st [(1, .long v1), (3, .long v3)] 44 [] := by
  obtain ⟨hx, hb, hml, hown, hts, hr, hlk, hK, had, hSt⟩ := id C
  intro H locs ls hl hP hS
  unfold fX7_apply_s44 at hf
  refine lv_lload_n hx hb dX7_apply_44 rfl (lv_at hl 0 rfl) ?_
  refine lv_lload_n hx hb dX7_apply_45 rfl (lv_at hl 1 rfl) ?_
  refine lv_lmul hx hb dX7_apply_46 ?_
  exact g_lret hx hb hr hlk hP hS dX7_apply_47 hf
def fX7_apply_s40 (n : Nat)   (v1 : Int64) (v3 : Int64) (st : St) : Option (Int64 × St) := some (v1 - v3, st)
set_option maxHeartbeats 4000000 in
set_option maxRecDepth 100000 in
theorem wX7_apply_s40 (C : Cx p s m args meth c cX7_apply 5 wsL_law RX7 (some .long) D G ad) (n : Nat)   (v1 : Int64) (v3 : Int64)   (st : St) (res : (Int64 × St))  (hf : fX7_apply_s40 n   v1 v3 st = some res) : At p l e (rmK 1) s m args below meth c D G ad (MQJ D G ad below args s res) 5 st [(1, .long v1), (3, .long v3)] 40 [] := by
  obtain ⟨hx, hb, hml, hown, hts, hr, hlk, hK, had, hSt⟩ := id C
  intro H locs ls hl hP hS
  unfold fX7_apply_s40 at hf
  refine lv_lload_n hx hb dX7_apply_40 rfl (lv_at hl 0 rfl) ?_
  refine lv_lload_n hx hb dX7_apply_41 rfl (lv_at hl 1 rfl) ?_
  refine lv_lsub hx hb dX7_apply_42 ?_
  exact g_lret hx hb hr hlk hP hS dX7_apply_43 hf
def fX7_apply_s36 (n : Nat)   (v1 : Int64) (v3 : Int64) (st : St) : Option (Int64 × St) := some (v1 + v3, st)
set_option maxHeartbeats 4000000 in
set_option maxRecDepth 100000 in
theorem wX7_apply_s36 (C : Cx p s m args meth c cX7_apply 5 wsL_law RX7 (some .long) D G ad) (n : Nat)   (v1 : Int64) (v3 : Int64)   (st : St) (res : (Int64 × St))  (hf : fX7_apply_s36 n   v1 v3 st = some res) : At p l e (rmK 1) s m args below meth c D G ad (MQJ D G ad below args s res) 5 st [(1, .long v1), (3, .long v3)] 36 [] := by
  obtain ⟨hx, hb, hml, hown, hts, hr, hlk, hK, had, hSt⟩ := id C
  intro H locs ls hl hP hS
  unfold fX7_apply_s36 at hf
  refine lv_lload_n hx hb dX7_apply_36 rfl (lv_at hl 0 rfl) ?_
  refine lv_lload_n hx hb dX7_apply_37 rfl (lv_at hl 1 rfl) ?_
  refine lv_ladd hx hb dX7_apply_38 ?_
  exact g_lret hx hb hr hlk hP hS dX7_apply_39 hf
def fX7_apply_s68 (n : Nat)   (v1 : Int64) (v3 : Int64) (st : St) : Option (Int64 × St) := some (if v3 < v1 then v1 else v3, st)
set_option maxHeartbeats 4000000 in
set_option maxRecDepth 100000 in
theorem wX7_apply_s68 (C : Cx p s m args meth c cX7_apply 5 wsL_law RX7 (some .long) D G ad) (n : Nat)   (v1 : Int64) (v3 : Int64)   (st : St) (res : (Int64 × St))  (hf : fX7_apply_s68 n   v1 v3 st = some res) : At p l e (rmK 1) s m args below meth c D G ad (MQJ D G ad below args s res) 5 st [(1, .long v1), (3, .long v3)] 68 [] := by
  obtain ⟨hx, hb, hml, hown, hts, hr, hlk, hK, had, hSt⟩ := id C
  intro H locs ls hl hP hS
  unfold fX7_apply_s68 at hf
  refine lv_lload_n hx hb dX7_apply_68 rfl (lv_at hl 0 rfl) ?_
  refine lv_lload_n hx hb dX7_apply_69 rfl (lv_at hl 1 rfl) ?_
  refine va_mmax_long hx hb (hml.trans hl.1.symm) hown (hts _ wm_21_12) (hts _ wm_21_13) (hts _ wm_18_20) (hts _ wm_21_14) (Nat.le_of_ble_eq_true rfl) (Nat.le_of_ble_eq_true rfl) (Nat.zero_le _) (Nat.zero_le _) dX7_apply_70 ?_
  exact g_lret hx hb hr hlk hP hS dX7_apply_73 hf
def fX7_apply_s0 (n : Nat)   (v0 : Int32) (v1 : Int64) (v3 : Int64) (st : St) : Option (Int64 × St) := if v0 = (-12) then fX7_apply_s62 n v1 v3 st else if v0 = (-11) then fX7_apply_s48 n v1 v3 st else if v0 = (-10) then fX7_apply_s44 n v1 v3 st else if v0 = (-9) then fX7_apply_s40 n v1 v3 st else if v0 = (-8) then fX7_apply_s36 n v1 v3 st else fX7_apply_s68 n v1 v3 st
set_option maxHeartbeats 4000000 in
set_option maxRecDepth 100000 in
theorem wX7_apply_s0 (C : Cx p s m args meth c cX7_apply 5 wsL_law RX7 (some .long) D G ad) (n : Nat)   (v0 : Int32) (v1 : Int64) (v3 : Int64)   (st : St) (res : (Int64 × St))  (hf : fX7_apply_s0 n   v0 v1 v3 st = some res) : At p l e (rmK 1) s m args below meth c D G ad (MQJ D G ad below args s res) 5 st [(0, .int v0), (1, .long v1), (3, .long v3)] 0 [] := by
  obtain ⟨hx, hb, hml, hown, hts, hr, hlk, hK, had, hSt⟩ := id C
  intro H locs ls hl hP hS
  unfold fX7_apply_s0 at hf
  refine lv_iload_n hx hb dX7_apply_0 rfl (lv_at hl 0 rfl) ?_
  by_cases q : v0 = (-12)
  · rw [q]
    refine lv_tableIn (tgt := 62) hx hb dX7_apply_1 (by decide) (by decide) rfl (by decide) ?_
    exact wX7_apply_s62 C n v1 v3 st res (it hf q) H locs ls (lv_sub hl [1, 2] rfl) hP hS
  replace hf := ie hf q
  have q0 := q
  clear q
  by_cases q : v0 = (-11)
  · rw [q]
    refine lv_tableIn (tgt := 48) hx hb dX7_apply_1 (by decide) (by decide) rfl (by decide) ?_
    exact wX7_apply_s48 C n v1 v3 st res (it hf q) H locs ls (lv_sub hl [1, 2] rfl) hP hS
  replace hf := ie hf q
  have q1 := q
  clear q
  by_cases q : v0 = (-10)
  · rw [q]
    refine lv_tableIn (tgt := 44) hx hb dX7_apply_1 (by decide) (by decide) rfl (by decide) ?_
    exact wX7_apply_s44 C n v1 v3 st res (it hf q) H locs ls (lv_sub hl [1, 2] rfl) hP hS
  replace hf := ie hf q
  have q2 := q
  clear q
  by_cases q : v0 = (-9)
  · rw [q]
    refine lv_tableIn (tgt := 40) hx hb dX7_apply_1 (by decide) (by decide) rfl (by decide) ?_
    exact wX7_apply_s40 C n v1 v3 st res (it hf q) H locs ls (lv_sub hl [1, 2] rfl) hP hS
  replace hf := ie hf q
  have q3 := q
  clear q
  by_cases q : v0 = (-8)
  · rw [q]
    refine lv_tableIn (tgt := 36) hx hb dX7_apply_1 (by decide) (by decide) rfl (by decide) ?_
    exact wX7_apply_s36 C n v1 v3 st res (it hf q) H locs ls (lv_sub hl [1, 2] rfl) hP hS
  replace hf := ie hf q
  have q4 := q
  clear q
  have qo : v0.toInt < -12 ∨ -8 < v0.toInt := by
    refine Classical.byContradiction (fun w => ?_)
    have w : v0.toInt = -12 ∨ v0.toInt = -11 ∨ v0.toInt = -10 ∨ v0.toInt = -9 ∨ v0.toInt = -8 := by omega
    rcases w with w | w | w | w | w
    · exact q0 (Int32.toInt_inj.mp (w.trans (by decide)))
    · exact q1 (Int32.toInt_inj.mp (w.trans (by decide)))
    · exact q2 (Int32.toInt_inj.mp (w.trans (by decide)))
    · exact q3 (Int32.toInt_inj.mp (w.trans (by decide)))
    · exact q4 (Int32.toInt_inj.mp (w.trans (by decide)))
  refine lv_tableOut (tgt := 68) hx hb dX7_apply_1 qo (by decide) ?_
  exact wX7_apply_s68 C n v1 v3 st res hf H locs ls (lv_sub hl [1, 2] rfl) hP hS
def fX7_apply (n : Nat)  (a0 : Int32) (a1 : Int64) (a3 : Int64) (st : St) : Option (Int64 × St) := fX7_apply_s0 n a0 a1 a3 st
theorem okX7_apply : okY yX7_apply RX7 3 := by unfold okY; decide +kernel
end
set_option maxRecDepth 100000 in
theorem kX7_apply (l : Launch) (D : va_G) (G : G3) (ad : Nat → Nat) (had : Adr ad) (n : Nat)   (a0 : Int32) (a1 : Int64) (a3 : Int64) (st : St) (res : (Int64 × St)) (hf : fX7_apply n  a0 a1 a3 st = some res) {sz : Nat} : CtJ l yX7_apply (wsU yX7_apply cX7_apply 5 (some .long)) (rmK 1) D G ad sz [.int a0, .long a1, .long a3] st res := by
  refine Met.ofW (cc := cX7_apply) (maxL := 5) (ret := (some .long)) (by decide) rfl ?_
  intro p e s m args below meth c s₁ B hml hv
  obtain ⟨rfl, hsz, hP, hK, hSt⟩ := hv
  have hts := atoms_spec (ws := wsU yX7_apply cX7_apply 5 (some .long)) B.pre
  have C : Cx p s m _ meth c cX7_apply 5 wsL_law RX7 (some .long) D G ad := ⟨B.exec, B.bytes, hml, findClass_of_methodNamed B.named, fun w h => hts w (List.mem_cons_of_mem _ h), B.returns, B.notSynchronized, hK, had, hSt⟩
  subst hsz
  have hl := lv_entry ([.int a0, .long a1, .long a3]) (n := 5) (Nat.le_of_ble_eq_true rfl)
  rw [lg_entry_eq]
  generalize (lg_sl ([.int a0, .long a1, .long a3]) ++ List.replicate (5 - (lg_sl ([.int a0, .long a1, .long a3])).length) Slot.unset).toArray = ls at hl ⊢
  exact wX7_apply_s0 C n  a0 a1 a3   st res hf s.heap [] ls (lv_sub hl [0, 1, 2] rfl) hP va_S.rf
section
variable {p : Program} {l : Launch} {e : Env} {s : State} {m : MethodId} {args : Array Value} {below : List Frame} {meth : Method} {c : Code} {D : va_G} {G : G3} {ad : Nat → Nat}
def fX7_bound_s0 (n : Nat)   (v0 : Int64) (st : St) : Option (Int64 × St) := some (if (if v0 < 1000000000 then v0 else 1000000000) < (-1000000000) then (-1000000000) else (if v0 < 1000000000 then v0 else 1000000000), st)
set_option maxHeartbeats 4000000 in
set_option maxRecDepth 100000 in
theorem wX7_bound_s0 (C : Cx p s m args meth c cX7_bound 2 wsL_law RX7 (some .long) D G ad) (n : Nat)   (v0 : Int64)   (st : St) (res : (Int64 × St))  (hf : fX7_bound_s0 n   v0 st = some res) : At p l e (rmK 1) s m args below meth c D G ad (MQJ D G ad below args s res) 2 st [(0, .long v0)] 0 [] := by
  obtain ⟨hx, hb, hml, hown, hts, hr, hlk, hK, had, hSt⟩ := id C
  intro H locs ls hl hP hS
  unfold fX7_bound_s0 at hf
  refine lv_ldc2 hx hb hown (hts _ wm_21_18) dX7_bound_0 ?_
  refine lv_ldc2 hx hb hown (hts _ wm_21_19) dX7_bound_3 ?_
  refine lv_lload_n hx hb dX7_bound_6 rfl (lv_at hl 0 rfl) ?_
  refine va_mmin_long hx hb (hml.trans hl.1.symm) hown (hts _ wm_21_9) (hts _ wm_21_10) (hts _ wm_18_20) (hts _ wm_21_11) (Nat.le_of_ble_eq_true rfl) (Nat.le_of_ble_eq_true rfl) (Nat.zero_le _) (Nat.zero_le _) dX7_bound_7 ?_
  refine va_mmax_long hx hb (hml.trans hl.1.symm) hown (hts _ wm_21_12) (hts _ wm_21_13) (hts _ wm_18_20) (hts _ wm_21_14) (Nat.le_of_ble_eq_true rfl) (Nat.le_of_ble_eq_true rfl) (Nat.zero_le _) (Nat.zero_le _) dX7_bound_10 ?_
  exact g_lret hx hb hr hlk hP hS dX7_bound_13 hf
def fX7_bound (n : Nat)  (a0 : Int64) (st : St) : Option (Int64 × St) := fX7_bound_s0 n a0 st
theorem okX7_bound : okY yX7_bound RX7 1 := by unfold okY; decide +kernel
end
set_option maxRecDepth 100000 in
theorem kX7_bound (l : Launch) (D : va_G) (G : G3) (ad : Nat → Nat) (had : Adr ad) (n : Nat)   (a0 : Int64) (st : St) (res : (Int64 × St)) (hf : fX7_bound n  a0 st = some res) {sz : Nat} : CtJ l yX7_bound (wsU yX7_bound cX7_bound 2 (some .long)) (rmK 1) D G ad sz [.long a0] st res := by
  refine Met.ofW (cc := cX7_bound) (maxL := 2) (ret := (some .long)) (by decide) rfl ?_
  intro p e s m args below meth c s₁ B hml hv
  obtain ⟨rfl, hsz, hP, hK, hSt⟩ := hv
  have hts := atoms_spec (ws := wsU yX7_bound cX7_bound 2 (some .long)) B.pre
  have C : Cx p s m _ meth c cX7_bound 2 wsL_law RX7 (some .long) D G ad := ⟨B.exec, B.bytes, hml, findClass_of_methodNamed B.named, fun w h => hts w (List.mem_cons_of_mem _ h), B.returns, B.notSynchronized, hK, had, hSt⟩
  subst hsz
  have hl := lv_entry ([.long a0]) (n := 2) (Nat.le_of_ble_eq_true rfl)
  rw [lg_entry_eq]
  generalize (lg_sl ([.long a0]) ++ List.replicate (2 - (lg_sl ([.long a0])).length) Slot.unset).toArray = ls at hl ⊢
  exact wX7_bound_s0 C n  a0   st res hf s.heap [] ls (lv_sub hl [0] rfl) hP va_S.rf
section
variable {p : Program} {l : Launch} {e : Env} {s : State} {m : MethodId} {args : Array Value} {below : List Frame} {meth : Method} {c : Code} {D : va_G} {G : G3} {ad : Nat → Nat}
def fX7_valueOf_s149 (n : Nat)  (b2 : Nat) (k0 : Int64) (st : St) : Option (Int64 × St) := some (k0, st)
set_option maxHeartbeats 4000000 in
set_option maxRecDepth 100000 in
theorem wX7_valueOf_s149 (C : Cx p s m args meth c cX7_valueOf 8 wsL_law RX7 (some .long) D G ad) (n : Nat)  (b2 : Nat) (k0 : Int64) (ib2 : isFl b2)  (st : St) (res : (Int64 × St))  (hf : fX7_valueOf_s149 n  b2 k0 st = some res) : At p l e (rmK 3) s m args below meth c D G ad (MQJ D G ad below args s res) 8 st [] 149 [.long k0] := by
  obtain ⟨hx, hb, hml, hown, hts, hr, hlk, hK, had, hSt⟩ := id C
  intro H locs ls hl hP hS
  unfold fX7_valueOf_s149 at hf
  exact g_lret hx hb hr hlk hP hS dX7_valueOf_149 hf
def fX7_valueOf_s148 (n : Nat)  (b2 : Nat)  (st : St) : Option (Int64 × St) := fX7_valueOf_s149 n b2 0 st
set_option maxHeartbeats 4000000 in
set_option maxRecDepth 100000 in
theorem wX7_valueOf_s148 (C : Cx p s m args meth c cX7_valueOf 8 wsL_law RX7 (some .long) D G ad) (n : Nat)  (b2 : Nat)  (ib2 : isFl b2)  (st : St) (res : (Int64 × St))  (hf : fX7_valueOf_s148 n  b2  st = some res) : At p l e (rmK 3) s m args below meth c D G ad (MQJ D G ad below args s res) 8 st [] 148 [] := by
  obtain ⟨hx, hb, hml, hown, hts, hr, hlk, hK, had, hSt⟩ := id C
  intro H locs ls hl hP hS
  unfold fX7_valueOf_s148 at hf
  refine lv_lconst (v := 0) hx hb dX7_valueOf_148 (by decide) ?_
  exact wX7_valueOf_s149 C n b2 0 ib2 st res hf H locs ls (lv_sub hl [] rfl) hP hS
def fX7_valueOf_s139 (n : Nat)  (b2 : Nat)  (st : St) : Option (Int64 × St) := if inb 0 32 = true then (fX7_valueOf_s149 n b2 (st.2 14 (0 : Int32).toNatClampNeg) st) else none
set_option maxHeartbeats 4000000 in
set_option maxRecDepth 100000 in
theorem wX7_valueOf_s139 (C : Cx p s m args meth c cX7_valueOf 8 wsL_law RX7 (some .long) D G ad) (n : Nat)  (b2 : Nat)  (ib2 : isFl b2)  (st : St) (res : (Int64 × St))  (hf : fX7_valueOf_s139 n  b2  st = some res) : At p l e (rmK 3) s m args below meth c D G ad (MQJ D G ad below args s res) 8 st [(0, .ref (ad 11))] 139 [] := by
  obtain ⟨hx, hb, hml, hown, hts, hr, hlk, hK, had, hSt⟩ := id C
  intro H locs ls hl hP hS
  unfold fX7_valueOf_s139 at hf
  refine lv_aload_n hx hb dX7_valueOf_139 rfl (lv_at hl 0 rfl) ?_
  refine g_getR hx hb hts inlX7 hown hK hP 11 ct_11 rfl 2 (by decide) (hts _ wm_4_5) rfl dX7_valueOf_140 ?_
  refine lv_iconst (v := 0) hx hb dX7_valueOf_143 (by decide) ?_
  obtain ⟨g1, hf⟩ := gd hf
  refine g_lald hx hb hK hP 14 ct_14 g1 dX7_valueOf_144 ?_
  refine lv_goto (tgt := 149) hx hb dX7_valueOf_145 (by decide) ?_
  exact wX7_valueOf_s149 C n b2 (st.2 14 (0 : Int32).toNatClampNeg) ib2 st res hf H locs ls (lv_sub hl [] rfl) hP hS
def fX7_valueOf_s134 (n : Nat)  (b2 : Nat) (v4 : Int32) (st : St) : Option (Int64 × St) := if v4 ≤ 0 then fX7_valueOf_s148 n b2 st else fX7_valueOf_s139 n b2 st
set_option maxHeartbeats 4000000 in
set_option maxRecDepth 100000 in
theorem wX7_valueOf_s134 (C : Cx p s m args meth c cX7_valueOf 8 wsL_law RX7 (some .long) D G ad) (n : Nat)  (b2 : Nat) (v4 : Int32) (ib2 : isFl b2)  (st : St) (res : (Int64 × St))  (hf : fX7_valueOf_s134 n  b2 v4 st = some res) : At p l e (rmK 3) s m args below meth c D G ad (MQJ D G ad below args s res) 8 st [(0, .ref (ad 11)), (4, .int v4)] 134 [] := by
  obtain ⟨hx, hb, hml, hown, hts, hr, hlk, hK, had, hSt⟩ := id C
  intro H locs ls hl hP hS
  unfold fX7_valueOf_s134 at hf
  refine lv_iload hx hb dX7_valueOf_134 (lv_at hl 1 rfl) ?_
  refine lv_if_le (tgt := 148) hx hb dX7_valueOf_136 (by decide) (fun q => ?_) (fun q => ?_)
  · exact wX7_valueOf_s148 C n b2 ib2 st res (it hf q) H locs ls (lv_sub hl [] rfl) hP hS
  · exact wX7_valueOf_s139 C n b2 ib2 st res (ie hf q) H locs ls (lv_sub hl [0] rfl) hP hS
def fX7_valueOf_s128 (n : Nat) (K13 : Int32 → Int32 → Int32 → Int32 → Int32 → St → Option (Int64 × St)) (b2 : Nat) (v1 : Int32) (v3 : Int32) (v4 : Int32) (v5 : Int32) (v6 : Int32) (st : St) : Option (Int64 × St) := K13 v1 v3 v4 v5 (v6 + 1) st
set_option maxHeartbeats 4000000 in
set_option maxRecDepth 100000 in
theorem wX7_valueOf_s128 (C : Cx p s m args meth c cX7_valueOf 8 wsL_law RX7 (some .long) D G ad) (n : Nat) (K13 : Int32 → Int32 → Int32 → Int32 → Int32 → St → Option (Int64 × St)) (b2 : Nat) (v1 : Int32) (v3 : Int32) (v4 : Int32) (v5 : Int32) (v6 : Int32) (ib2 : isFl b2)  (st : St) (res : (Int64 × St)) (hK13 : ∀ (v1 : Int32) (v3 : Int32) (v4 : Int32) (v5 : Int32) (v6 : Int32) (st : St), K13 v1 v3 v4 v5 v6 st = some res → At p l e (rmK 3) s m args below meth c D G ad (MQJ D G ad below args s res) 8 st [(0, .ref (ad 11)), (1, .int v1), (2, .ref (ad b2)), (3, .int v3), (4, .int v4), (5, .int v5), (6, .int v6)] 13 []) (hf : fX7_valueOf_s128 n K13 b2 v1 v3 v4 v5 v6 st = some res) : At p l e (rmK 3) s m args below meth c D G ad (MQJ D G ad below args s res) 8 st [(0, .ref (ad 11)), (1, .int v1), (2, .ref (ad b2)), (3, .int v3), (4, .int v4), (5, .int v5), (6, .int v6)] 128 [] := by
  obtain ⟨hx, hb, hml, hown, hts, hr, hlk, hK, had, hSt⟩ := id C
  intro H locs ls hl hP hS
  unfold fX7_valueOf_s128 at hf
  refine lv_iinc (v := v6 + 1) (lv' := [(6, .int (v6 + 1)), (0, .ref (ad 11)), (1, .int v1), (2, .ref (ad b2)), (3, .int v3), (4, .int v4), (5, .int v5)]) hx hb dX7_valueOf_128 hl (k := 6) rfl rfl (by decide) rfl (fun ls hl => ?_)
  refine lv_goto (tgt := 13) hx hb dX7_valueOf_131 (by decide) ?_
  exact hK13 v1 v3 v4 v5 (v6 + 1)  st hf H locs ls (lv_sub hl [1, 2, 3, 4, 5, 6, 0] rfl) hP hS
def fX7_valueOf_s127 (n : Nat) (K13 : Int32 → Int32 → Int32 → Int32 → Int32 → St → Option (Int64 × St)) (b2 : Nat) (v1 : Int32) (v3 : Int32) (v4 : Int32) (v5 : Int32) (v6 : Int32) (k1 : Int32) (k2 : Int64) (st : St) : Option (Int64 × St) := if inb k1 32 = true then (fX7_valueOf_s128 n K13 b2 v1 v3 v4 v5 v6 (setJ st 14 k1.toNatClampNeg k2)) else none
set_option maxHeartbeats 4000000 in
set_option maxRecDepth 100000 in
theorem wX7_valueOf_s127 (C : Cx p s m args meth c cX7_valueOf 8 wsL_law RX7 (some .long) D G ad) (n : Nat) (K13 : Int32 → Int32 → Int32 → Int32 → Int32 → St → Option (Int64 × St)) (b2 : Nat) (v1 : Int32) (v3 : Int32) (v4 : Int32) (v5 : Int32) (v6 : Int32) (k1 : Int32) (k2 : Int64) (ib2 : isFl b2)  (st : St) (res : (Int64 × St)) (hK13 : ∀ (v1 : Int32) (v3 : Int32) (v4 : Int32) (v5 : Int32) (v6 : Int32) (st : St), K13 v1 v3 v4 v5 v6 st = some res → At p l e (rmK 3) s m args below meth c D G ad (MQJ D G ad below args s res) 8 st [(0, .ref (ad 11)), (1, .int v1), (2, .ref (ad b2)), (3, .int v3), (4, .int v4), (5, .int v5), (6, .int v6)] 13 []) (hf : fX7_valueOf_s127 n K13 b2 v1 v3 v4 v5 v6 k1 k2 st = some res) : At p l e (rmK 3) s m args below meth c D G ad (MQJ D G ad below args s res) 8 st [(0, .ref (ad 11)), (1, .int v1), (2, .ref (ad b2)), (3, .int v3), (4, .int v4), (5, .int v5), (6, .int v6)] 127 [.long k2, .int k1, .ref (ad 14)] := by
  obtain ⟨hx, hb, hml, hown, hts, hr, hlk, hK, had, hSt⟩ := id C
  intro H locs ls hl hP hS
  unfold fX7_valueOf_s127 at hf
  obtain ⟨g1, hf⟩ := gd hf
  refine g_last hx hb hK had hP hS 14 ct_14 g1 dX7_valueOf_127 (fun H locs hP hS => ?_)
  exact wX7_valueOf_s128 C n K13 b2 v1 v3 v4 v5 v6 ib2 (setJ st 14 k1.toNatClampNeg k2) res hK13 hf H locs ls (lv_sub hl [0, 1, 2, 3, 4, 5, 6] rfl) hP hS
def fX7_valueOf_s124 (n : Nat) (K13 : Int32 → Int32 → Int32 → Int32 → Int32 → St → Option (Int64 × St)) (b2 : Nat) (v1 : Int32) (v3 : Int32) (v4 : Int32) (v5 : Int32) (v6 : Int32) (k1 : Int32) (k2 : Int64) (st : St) : Option (Int64 × St) := (fX7_bound n k2 st).bind (fun q => fX7_valueOf_s127 n K13 b2 v1 v3 v4 v5 v6 k1 q.1 q.2)
set_option maxHeartbeats 4000000 in
set_option maxRecDepth 100000 in
theorem wX7_valueOf_s124 (C : Cx p s m args meth c cX7_valueOf 8 wsL_law RX7 (some .long) D G ad) (n : Nat) (K13 : Int32 → Int32 → Int32 → Int32 → Int32 → St → Option (Int64 × St)) (b2 : Nat) (v1 : Int32) (v3 : Int32) (v4 : Int32) (v5 : Int32) (v6 : Int32) (k1 : Int32) (k2 : Int64) (ib2 : isFl b2)  (st : St) (res : (Int64 × St)) (hK13 : ∀ (v1 : Int32) (v3 : Int32) (v4 : Int32) (v5 : Int32) (v6 : Int32) (st : St), K13 v1 v3 v4 v5 v6 st = some res → At p l e (rmK 3) s m args below meth c D G ad (MQJ D G ad below args s res) 8 st [(0, .ref (ad 11)), (1, .int v1), (2, .ref (ad b2)), (3, .int v3), (4, .int v4), (5, .int v5), (6, .int v6)] 13 []) (hf : fX7_valueOf_s124 n K13 b2 v1 v3 v4 v5 v6 k1 k2 st = some res) : At p l e (rmK 3) s m args below meth c D G ad (MQJ D G ad below args s res) 8 st [(0, .ref (ad 11)), (1, .int v1), (2, .ref (ad b2)), (3, .int v3), (4, .int v4), (5, .int v5), (6, .int v6)] 124 [.long k2, .int k1, .ref (ad 14)] := by
  obtain ⟨hx, hb, hml, hown, hts, hr, hlk, hK, had, hSt⟩ := id C
  intro H locs ls hl hP hS
  unfold fX7_valueOf_s124 at hf
  obtain ⟨q, hq, hf⟩ := bd hf
  refine gcS_j (k := 1) (As := [.long k2]) (rest := [.int k1, .ref (ad 14)]) hx hb hml hown hts hK hSt hP hS hl.1 (goodS wm_21_15 wm_21_16 wm_1_19 wm_21_17) okX7_bound (Nat.le_of_ble_eq_true rfl) (Nat.le_of_ble_eq_true rfl) rfl rfl (Nat.le_of_ble_eq_true rfl) dX7_valueOf_124 (kX7_bound l D G ad had n  k2 st q hq) (fun H locs hP hS => ?_)
  exact wX7_valueOf_s127 C n K13 b2 v1 v3 v4 v5 v6 k1 q.1 ib2 q.2 res hK13 hf H locs ls (lv_sub hl [0, 1, 2, 3, 4, 5, 6] rfl) hP hS
def fX7_valueOf_s92 (n : Nat) (K13 : Int32 → Int32 → Int32 → Int32 → Int32 → St → Option (Int64 × St)) (b2 : Nat) (v1 : Int32) (v3 : Int32) (v4 : Int32) (v5 : Int32) (v6 : Int32) (v7 : Int32) (st : St) : Option (Int64 × St) := if inb ((v4 + (-1)) - 1) 32 = true then (if inb (v4 + (-1)) 32 = true then ((fX7_apply n v7 (st.2 14 ((v4 + (-1)) - 1).toNatClampNeg) (st.2 14 (v4 + (-1)).toNatClampNeg) st).bind (fun q => fX7_valueOf_s124 n K13 b2 v1 v3 (v4 + (-1)) v5 v6 ((v4 + (-1)) - 1) q.1 q.2)) else none) else none
set_option maxHeartbeats 4000000 in
set_option maxRecDepth 100000 in
theorem wX7_valueOf_s92 (C : Cx p s m args meth c cX7_valueOf 8 wsL_law RX7 (some .long) D G ad) (n : Nat) (K13 : Int32 → Int32 → Int32 → Int32 → Int32 → St → Option (Int64 × St)) (b2 : Nat) (v1 : Int32) (v3 : Int32) (v4 : Int32) (v5 : Int32) (v6 : Int32) (v7 : Int32) (ib2 : isFl b2)  (st : St) (res : (Int64 × St)) (hK13 : ∀ (v1 : Int32) (v3 : Int32) (v4 : Int32) (v5 : Int32) (v6 : Int32) (st : St), K13 v1 v3 v4 v5 v6 st = some res → At p l e (rmK 3) s m args below meth c D G ad (MQJ D G ad below args s res) 8 st [(0, .ref (ad 11)), (1, .int v1), (2, .ref (ad b2)), (3, .int v3), (4, .int v4), (5, .int v5), (6, .int v6)] 13 []) (hf : fX7_valueOf_s92 n K13 b2 v1 v3 v4 v5 v6 v7 st = some res) : At p l e (rmK 3) s m args below meth c D G ad (MQJ D G ad below args s res) 8 st [(0, .ref (ad 11)), (1, .int v1), (2, .ref (ad b2)), (3, .int v3), (4, .int v4), (5, .int v5), (6, .int v6), (7, .int v7)] 92 [] := by
  obtain ⟨hx, hb, hml, hown, hts, hr, hlk, hK, had, hSt⟩ := id C
  intro H locs ls hl hP hS
  unfold fX7_valueOf_s92 at hf
  refine lv_iinc (v := v4 + (-1)) (lv' := [(4, .int (v4 + (-1))), (0, .ref (ad 11)), (1, .int v1), (2, .ref (ad b2)), (3, .int v3), (5, .int v5), (6, .int v6), (7, .int v7)]) hx hb dX7_valueOf_92 hl (k := 4) rfl rfl (by decide) rfl (fun ls hl => ?_)
  refine lv_aload_n hx hb dX7_valueOf_95 rfl (lv_at hl 1 rfl) ?_
  refine g_getR hx hb hts inlX7 hown hK hP 11 ct_11 rfl 2 (by decide) (hts _ wm_4_5) rfl dX7_valueOf_96 ?_
  refine lv_iload hx hb dX7_valueOf_99 (lv_at hl 0 rfl) ?_
  refine lv_iconst (v := 1) hx hb dX7_valueOf_101 (by decide) ?_
  refine lv_isub hx hb dX7_valueOf_102 ?_
  refine lv_iload hx hb dX7_valueOf_103 (lv_at hl 7 rfl) ?_
  refine lv_aload_n hx hb dX7_valueOf_105 rfl (lv_at hl 1 rfl) ?_
  refine g_getR hx hb hts inlX7 hown hK hP 11 ct_11 rfl 2 (by decide) (hts _ wm_4_5) rfl dX7_valueOf_106 ?_
  refine lv_iload hx hb dX7_valueOf_109 (lv_at hl 0 rfl) ?_
  refine lv_iconst (v := 1) hx hb dX7_valueOf_111 (by decide) ?_
  refine lv_isub hx hb dX7_valueOf_112 ?_
  obtain ⟨g1, hf⟩ := gd hf
  refine g_lald hx hb hK hP 14 ct_14 g1 dX7_valueOf_113 ?_
  refine lv_aload_n hx hb dX7_valueOf_114 rfl (lv_at hl 1 rfl) ?_
  refine g_getR hx hb hts inlX7 hown hK hP 11 ct_11 rfl 2 (by decide) (hts _ wm_4_5) rfl dX7_valueOf_115 ?_
  refine lv_iload hx hb dX7_valueOf_118 (lv_at hl 0 rfl) ?_
  obtain ⟨g2, hf⟩ := gd hf
  refine g_lald hx hb hK hP 14 ct_14 g2 dX7_valueOf_120 ?_
  obtain ⟨q, hq, hf⟩ := bd hf
  refine gcS_j (k := 1) (As := [.int v7, .long (st.2 14 ((v4 + (-1)) - 1).toNatClampNeg), .long (st.2 14 (v4 + (-1)).toNatClampNeg)]) (rest := [.int ((v4 + (-1)) - 1), .ref (ad 14)]) hx hb hml hown hts hK hSt hP hS hl.1 (goodS wm_21_6 wm_21_7 wm_1_19 wm_21_8) okX7_apply (Nat.le_of_ble_eq_true rfl) (Nat.le_of_ble_eq_true rfl) rfl rfl (Nat.le_of_ble_eq_true rfl) dX7_valueOf_121 (kX7_apply l D G ad had n  v7 (st.2 14 ((v4 + (-1)) - 1).toNatClampNeg) (st.2 14 (v4 + (-1)).toNatClampNeg) st q hq) (fun H locs hP hS => ?_)
  exact wX7_valueOf_s124 C n K13 b2 v1 v3 (v4 + (-1)) v5 v6 ((v4 + (-1)) - 1) q.1 ib2 q.2 res hK13 hf H locs ls (lv_sub hl [1, 2, 3, 4, 0, 5, 6] rfl) hP hS
def fX7_valueOf_s86 (n : Nat) (K13 : Int32 → Int32 → Int32 → Int32 → Int32 → St → Option (Int64 × St)) (b2 : Nat) (v1 : Int32) (v3 : Int32) (v4 : Int32) (v5 : Int32) (v6 : Int32) (v7 : Int32) (st : St) : Option (Int64 × St) := if v4 ≤ 1 then fX7_valueOf_s128 n K13 b2 v1 v3 v4 v5 v6 st else fX7_valueOf_s92 n K13 b2 v1 v3 v4 v5 v6 v7 st
set_option maxHeartbeats 4000000 in
set_option maxRecDepth 100000 in
theorem wX7_valueOf_s86 (C : Cx p s m args meth c cX7_valueOf 8 wsL_law RX7 (some .long) D G ad) (n : Nat) (K13 : Int32 → Int32 → Int32 → Int32 → Int32 → St → Option (Int64 × St)) (b2 : Nat) (v1 : Int32) (v3 : Int32) (v4 : Int32) (v5 : Int32) (v6 : Int32) (v7 : Int32) (ib2 : isFl b2)  (st : St) (res : (Int64 × St)) (hK13 : ∀ (v1 : Int32) (v3 : Int32) (v4 : Int32) (v5 : Int32) (v6 : Int32) (st : St), K13 v1 v3 v4 v5 v6 st = some res → At p l e (rmK 3) s m args below meth c D G ad (MQJ D G ad below args s res) 8 st [(0, .ref (ad 11)), (1, .int v1), (2, .ref (ad b2)), (3, .int v3), (4, .int v4), (5, .int v5), (6, .int v6)] 13 []) (hf : fX7_valueOf_s86 n K13 b2 v1 v3 v4 v5 v6 v7 st = some res) : At p l e (rmK 3) s m args below meth c D G ad (MQJ D G ad below args s res) 8 st [(0, .ref (ad 11)), (1, .int v1), (2, .ref (ad b2)), (3, .int v3), (4, .int v4), (5, .int v5), (6, .int v6), (7, .int v7)] 86 [] := by
  obtain ⟨hx, hb, hml, hown, hts, hr, hlk, hK, had, hSt⟩ := id C
  intro H locs ls hl hP hS
  unfold fX7_valueOf_s86 at hf
  refine lv_iload hx hb dX7_valueOf_86 (lv_at hl 4 rfl) ?_
  refine lv_iconst (v := 1) hx hb dX7_valueOf_88 (by decide) ?_
  refine lv_icmp_le (tgt := 128) hx hb dX7_valueOf_89 (by decide) (fun q => ?_) (fun q => ?_)
  · exact wX7_valueOf_s128 C n K13 b2 v1 v3 v4 v5 v6 ib2 st res hK13 (it hf q) H locs ls (lv_sub hl [0, 1, 2, 3, 4, 5, 6] rfl) hP hS
  · exact wX7_valueOf_s92 C n K13 b2 v1 v3 v4 v5 v6 v7 ib2 st res hK13 (ie hf q) H locs ls (lv_sub hl [0, 1, 2, 3, 4, 5, 6, 7] rfl) hP hS
def fX7_valueOf_s80 (n : Nat) (K13 : Int32 → Int32 → Int32 → Int32 → Int32 → St → Option (Int64 × St)) (b2 : Nat) (v1 : Int32) (v3 : Int32) (v4 : Int32) (v5 : Int32) (v6 : Int32) (st : St) : Option (Int64 × St) := fX7_valueOf_s128 n K13 b2 v1 v3 (v4 + 1) v5 v6 st
set_option maxHeartbeats 4000000 in
set_option maxRecDepth 100000 in
theorem wX7_valueOf_s80 (C : Cx p s m args meth c cX7_valueOf 8 wsL_law RX7 (some .long) D G ad) (n : Nat) (K13 : Int32 → Int32 → Int32 → Int32 → Int32 → St → Option (Int64 × St)) (b2 : Nat) (v1 : Int32) (v3 : Int32) (v4 : Int32) (v5 : Int32) (v6 : Int32) (ib2 : isFl b2)  (st : St) (res : (Int64 × St)) (hK13 : ∀ (v1 : Int32) (v3 : Int32) (v4 : Int32) (v5 : Int32) (v6 : Int32) (st : St), K13 v1 v3 v4 v5 v6 st = some res → At p l e (rmK 3) s m args below meth c D G ad (MQJ D G ad below args s res) 8 st [(0, .ref (ad 11)), (1, .int v1), (2, .ref (ad b2)), (3, .int v3), (4, .int v4), (5, .int v5), (6, .int v6)] 13 []) (hf : fX7_valueOf_s80 n K13 b2 v1 v3 v4 v5 v6 st = some res) : At p l e (rmK 3) s m args below meth c D G ad (MQJ D G ad below args s res) 8 st [(0, .ref (ad 11)), (1, .int v1), (2, .ref (ad b2)), (3, .int v3), (4, .int v4), (5, .int v5), (6, .int v6)] 80 [] := by
  obtain ⟨hx, hb, hml, hown, hts, hr, hlk, hK, had, hSt⟩ := id C
  intro H locs ls hl hP hS
  unfold fX7_valueOf_s80 at hf
  refine lv_iinc (v := v4 + 1) (lv' := [(4, .int (v4 + 1)), (0, .ref (ad 11)), (1, .int v1), (2, .ref (ad b2)), (3, .int v3), (5, .int v5), (6, .int v6)]) hx hb dX7_valueOf_80 hl (k := 4) rfl rfl (by decide) rfl (fun ls hl => ?_)
  refine lv_goto (tgt := 128) hx hb dX7_valueOf_83 (by decide) ?_
  exact wX7_valueOf_s128 C n K13 b2 v1 v3 (v4 + 1) v5 v6 ib2 st res hK13 hf H locs ls (lv_sub hl [1, 2, 3, 4, 0, 5, 6] rfl) hP hS
def fX7_valueOf_s79 (n : Nat) (K13 : Int32 → Int32 → Int32 → Int32 → Int32 → St → Option (Int64 × St)) (b2 : Nat) (v1 : Int32) (v3 : Int32) (v4 : Int32) (v5 : Int32) (v6 : Int32) (k1 : Int32) (k2 : Int64) (st : St) : Option (Int64 × St) := if inb k1 32 = true then (fX7_valueOf_s80 n K13 b2 v1 v3 v4 v5 v6 (setJ st 14 k1.toNatClampNeg k2)) else none
set_option maxHeartbeats 4000000 in
set_option maxRecDepth 100000 in
theorem wX7_valueOf_s79 (C : Cx p s m args meth c cX7_valueOf 8 wsL_law RX7 (some .long) D G ad) (n : Nat) (K13 : Int32 → Int32 → Int32 → Int32 → Int32 → St → Option (Int64 × St)) (b2 : Nat) (v1 : Int32) (v3 : Int32) (v4 : Int32) (v5 : Int32) (v6 : Int32) (k1 : Int32) (k2 : Int64) (ib2 : isFl b2)  (st : St) (res : (Int64 × St)) (hK13 : ∀ (v1 : Int32) (v3 : Int32) (v4 : Int32) (v5 : Int32) (v6 : Int32) (st : St), K13 v1 v3 v4 v5 v6 st = some res → At p l e (rmK 3) s m args below meth c D G ad (MQJ D G ad below args s res) 8 st [(0, .ref (ad 11)), (1, .int v1), (2, .ref (ad b2)), (3, .int v3), (4, .int v4), (5, .int v5), (6, .int v6)] 13 []) (hf : fX7_valueOf_s79 n K13 b2 v1 v3 v4 v5 v6 k1 k2 st = some res) : At p l e (rmK 3) s m args below meth c D G ad (MQJ D G ad below args s res) 8 st [(0, .ref (ad 11)), (1, .int v1), (2, .ref (ad b2)), (3, .int v3), (4, .int v4), (5, .int v5), (6, .int v6)] 79 [.long k2, .int k1, .ref (ad 14)] := by
  obtain ⟨hx, hb, hml, hown, hts, hr, hlk, hK, had, hSt⟩ := id C
  intro H locs ls hl hP hS
  unfold fX7_valueOf_s79 at hf
  obtain ⟨g1, hf⟩ := gd hf
  refine g_last hx hb hK had hP hS 14 ct_14 g1 dX7_valueOf_79 (fun H locs hP hS => ?_)
  exact wX7_valueOf_s80 C n K13 b2 v1 v3 v4 v5 v6 ib2 (setJ st 14 k1.toNatClampNeg k2) res hK13 hf H locs ls (lv_sub hl [0, 1, 2, 3, 4, 5, 6] rfl) hP hS
def fX7_valueOf_s70 (n : Nat) (K13 : Int32 → Int32 → Int32 → Int32 → Int32 → St → Option (Int64 × St)) (b2 : Nat) (v1 : Int32) (v3 : Int32) (v4 : Int32) (v5 : Int32) (v6 : Int32) (v7 : Int32) (k1 : Int32) (st : St) : Option (Int64 × St) := (fX1_field n b2 ((-1) - v7) v3 st).bind (fun q => fX7_valueOf_s79 n K13 b2 v1 v3 v4 v5 v6 k1 q.1 q.2)
set_option maxHeartbeats 4000000 in
set_option maxRecDepth 100000 in
theorem wX7_valueOf_s70 (C : Cx p s m args meth c cX7_valueOf 8 wsL_law RX7 (some .long) D G ad) (n : Nat) (K13 : Int32 → Int32 → Int32 → Int32 → Int32 → St → Option (Int64 × St)) (b2 : Nat) (v1 : Int32) (v3 : Int32) (v4 : Int32) (v5 : Int32) (v6 : Int32) (v7 : Int32) (k1 : Int32) (ib2 : isFl b2)  (st : St) (res : (Int64 × St)) (hK13 : ∀ (v1 : Int32) (v3 : Int32) (v4 : Int32) (v5 : Int32) (v6 : Int32) (st : St), K13 v1 v3 v4 v5 v6 st = some res → At p l e (rmK 3) s m args below meth c D G ad (MQJ D G ad below args s res) 8 st [(0, .ref (ad 11)), (1, .int v1), (2, .ref (ad b2)), (3, .int v3), (4, .int v4), (5, .int v5), (6, .int v6)] 13 []) (hf : fX7_valueOf_s70 n K13 b2 v1 v3 v4 v5 v6 v7 k1 st = some res) : At p l e (rmK 3) s m args below meth c D G ad (MQJ D G ad below args s res) 8 st [(0, .ref (ad 11)), (1, .int v1), (2, .ref (ad b2)), (3, .int v3), (4, .int v4), (5, .int v5), (6, .int v6), (7, .int v7)] 70 [.int k1, .ref (ad 14)] := by
  obtain ⟨hx, hb, hml, hown, hts, hr, hlk, hK, had, hSt⟩ := id C
  intro H locs ls hl hP hS
  unfold fX7_valueOf_s70 at hf
  refine lv_aload_n hx hb dX7_valueOf_70 rfl (lv_at hl 2 rfl) ?_
  refine lv_iconst (v := (-1)) hx hb dX7_valueOf_71 (by decide) ?_
  refine lv_iload hx hb dX7_valueOf_72 (lv_at hl 7 rfl) ?_
  refine lv_isub hx hb dX7_valueOf_74 ?_
  refine lv_iload_n hx hb dX7_valueOf_75 rfl (lv_at hl 3 rfl) ?_
  obtain ⟨q, hq, hf⟩ := bd hf
  refine gcV_j (k := 2) (o := b2) (As := [.int ((-1) - v7), .int v3]) (rest := [.int k1, .ref (ad 14)]) hx hb hml hown hts hK hSt hP hS hl.1 (goodV wm_20_17 wm_20_18 wm_20_19 wm_3_6 wm_20_20) okX1_field (fl_0 ib2) rfl rfl (Nat.le_of_ble_eq_true rfl) (Nat.le_of_ble_eq_true rfl) rfl rfl (Nat.le_of_ble_eq_true rfl) dX7_valueOf_76 (kX1_field l D G ad had n b2 ib2 ((-1) - v7) v3 st q hq) (fun H locs hP hS => ?_)
  exact wX7_valueOf_s79 C n K13 b2 v1 v3 v4 v5 v6 k1 q.1 ib2 q.2 res hK13 hf H locs ls (lv_sub hl [0, 1, 2, 3, 4, 5, 6] rfl) hP hS
def fX7_valueOf_s64 (n : Nat) (K13 : Int32 → Int32 → Int32 → Int32 → Int32 → St → Option (Int64 × St)) (b2 : Nat) (v1 : Int32) (v3 : Int32) (v4 : Int32) (v5 : Int32) (v6 : Int32) (v7 : Int32) (k1 : Int32) (st : St) : Option (Int64 × St) := fX7_valueOf_s79 n K13 b2 v1 v3 v4 v5 v6 k1 v7.toInt64 st
set_option maxHeartbeats 4000000 in
set_option maxRecDepth 100000 in
theorem wX7_valueOf_s64 (C : Cx p s m args meth c cX7_valueOf 8 wsL_law RX7 (some .long) D G ad) (n : Nat) (K13 : Int32 → Int32 → Int32 → Int32 → Int32 → St → Option (Int64 × St)) (b2 : Nat) (v1 : Int32) (v3 : Int32) (v4 : Int32) (v5 : Int32) (v6 : Int32) (v7 : Int32) (k1 : Int32) (ib2 : isFl b2)  (st : St) (res : (Int64 × St)) (hK13 : ∀ (v1 : Int32) (v3 : Int32) (v4 : Int32) (v5 : Int32) (v6 : Int32) (st : St), K13 v1 v3 v4 v5 v6 st = some res → At p l e (rmK 3) s m args below meth c D G ad (MQJ D G ad below args s res) 8 st [(0, .ref (ad 11)), (1, .int v1), (2, .ref (ad b2)), (3, .int v3), (4, .int v4), (5, .int v5), (6, .int v6)] 13 []) (hf : fX7_valueOf_s64 n K13 b2 v1 v3 v4 v5 v6 v7 k1 st = some res) : At p l e (rmK 3) s m args below meth c D G ad (MQJ D G ad below args s res) 8 st [(0, .ref (ad 11)), (1, .int v1), (2, .ref (ad b2)), (3, .int v3), (4, .int v4), (5, .int v5), (6, .int v6), (7, .int v7)] 64 [.int k1, .ref (ad 14)] := by
  obtain ⟨hx, hb, hml, hown, hts, hr, hlk, hK, had, hSt⟩ := id C
  intro H locs ls hl hP hS
  unfold fX7_valueOf_s64 at hf
  refine lv_iload hx hb dX7_valueOf_64 (lv_at hl 7 rfl) ?_
  refine lv_i2l hx hb dX7_valueOf_66 rfl ?_
  refine lv_goto (tgt := 79) hx hb dX7_valueOf_67 (by decide) ?_
  exact wX7_valueOf_s79 C n K13 b2 v1 v3 v4 v5 v6 k1 v7.toInt64 ib2 st res hK13 hf H locs ls (lv_sub hl [0, 1, 2, 3, 4, 5, 6] rfl) hP hS
def fX7_valueOf_s53 (n : Nat) (K13 : Int32 → Int32 → Int32 → Int32 → Int32 → St → Option (Int64 × St)) (b2 : Nat) (v1 : Int32) (v3 : Int32) (v4 : Int32) (v5 : Int32) (v6 : Int32) (v7 : Int32) (st : St) : Option (Int64 × St) := if v7 < 0 then fX7_valueOf_s70 n K13 b2 v1 v3 v4 v5 v6 v7 v4 st else fX7_valueOf_s64 n K13 b2 v1 v3 v4 v5 v6 v7 v4 st
set_option maxHeartbeats 4000000 in
set_option maxRecDepth 100000 in
theorem wX7_valueOf_s53 (C : Cx p s m args meth c cX7_valueOf 8 wsL_law RX7 (some .long) D G ad) (n : Nat) (K13 : Int32 → Int32 → Int32 → Int32 → Int32 → St → Option (Int64 × St)) (b2 : Nat) (v1 : Int32) (v3 : Int32) (v4 : Int32) (v5 : Int32) (v6 : Int32) (v7 : Int32) (ib2 : isFl b2)  (st : St) (res : (Int64 × St)) (hK13 : ∀ (v1 : Int32) (v3 : Int32) (v4 : Int32) (v5 : Int32) (v6 : Int32) (st : St), K13 v1 v3 v4 v5 v6 st = some res → At p l e (rmK 3) s m args below meth c D G ad (MQJ D G ad below args s res) 8 st [(0, .ref (ad 11)), (1, .int v1), (2, .ref (ad b2)), (3, .int v3), (4, .int v4), (5, .int v5), (6, .int v6)] 13 []) (hf : fX7_valueOf_s53 n K13 b2 v1 v3 v4 v5 v6 v7 st = some res) : At p l e (rmK 3) s m args below meth c D G ad (MQJ D G ad below args s res) 8 st [(0, .ref (ad 11)), (1, .int v1), (2, .ref (ad b2)), (3, .int v3), (4, .int v4), (5, .int v5), (6, .int v6), (7, .int v7)] 53 [] := by
  obtain ⟨hx, hb, hml, hown, hts, hr, hlk, hK, had, hSt⟩ := id C
  intro H locs ls hl hP hS
  unfold fX7_valueOf_s53 at hf
  refine lv_aload_n hx hb dX7_valueOf_53 rfl (lv_at hl 0 rfl) ?_
  refine g_getR hx hb hts inlX7 hown hK hP 11 ct_11 rfl 2 (by decide) (hts _ wm_4_5) rfl dX7_valueOf_54 ?_
  refine lv_iload hx hb dX7_valueOf_57 (lv_at hl 4 rfl) ?_
  refine lv_iload hx hb dX7_valueOf_59 (lv_at hl 7 rfl) ?_
  refine lv_if_lt (tgt := 70) hx hb dX7_valueOf_61 (by decide) (fun q => ?_) (fun q => ?_)
  · exact wX7_valueOf_s70 C n K13 b2 v1 v3 v4 v5 v6 v7 v4 ib2 st res hK13 (it hf q) H locs ls (lv_sub hl [0, 1, 2, 3, 4, 5, 6, 7] rfl) hP hS
  · exact wX7_valueOf_s64 C n K13 b2 v1 v3 v4 v5 v6 v7 v4 ib2 st res hK13 (ie hf q) H locs ls (lv_sub hl [0, 1, 2, 3, 4, 5, 6, 7] rfl) hP hS
def fX7_valueOf_s43 (n : Nat) (K13 : Int32 → Int32 → Int32 → Int32 → Int32 → St → Option (Int64 × St)) (b2 : Nat) (v1 : Int32) (v3 : Int32) (v4 : Int32) (v5 : Int32) (v6 : Int32) (v7 : Int32) (st : St) : Option (Int64 × St) := if 32 ≤ v4 then fX7_valueOf_s128 n K13 b2 v1 v3 v4 v5 v6 st else fX7_valueOf_s53 n K13 b2 v1 v3 v4 v5 v6 v7 st
set_option maxHeartbeats 4000000 in
set_option maxRecDepth 100000 in
theorem wX7_valueOf_s43 (C : Cx p s m args meth c cX7_valueOf 8 wsL_law RX7 (some .long) D G ad) (n : Nat) (K13 : Int32 → Int32 → Int32 → Int32 → Int32 → St → Option (Int64 × St)) (b2 : Nat) (v1 : Int32) (v3 : Int32) (v4 : Int32) (v5 : Int32) (v6 : Int32) (v7 : Int32) (ib2 : isFl b2)  (st : St) (res : (Int64 × St)) (hK13 : ∀ (v1 : Int32) (v3 : Int32) (v4 : Int32) (v5 : Int32) (v6 : Int32) (st : St), K13 v1 v3 v4 v5 v6 st = some res → At p l e (rmK 3) s m args below meth c D G ad (MQJ D G ad below args s res) 8 st [(0, .ref (ad 11)), (1, .int v1), (2, .ref (ad b2)), (3, .int v3), (4, .int v4), (5, .int v5), (6, .int v6)] 13 []) (hf : fX7_valueOf_s43 n K13 b2 v1 v3 v4 v5 v6 v7 st = some res) : At p l e (rmK 3) s m args below meth c D G ad (MQJ D G ad below args s res) 8 st [(0, .ref (ad 11)), (1, .int v1), (2, .ref (ad b2)), (3, .int v3), (4, .int v4), (5, .int v5), (6, .int v6), (7, .int v7)] 43 [] := by
  obtain ⟨hx, hb, hml, hown, hts, hr, hlk, hK, had, hSt⟩ := id C
  intro H locs ls hl hP hS
  unfold fX7_valueOf_s43 at hf
  refine lv_iload hx hb dX7_valueOf_43 (lv_at hl 4 rfl) ?_
  refine lv_aload_n hx hb dX7_valueOf_45 rfl (lv_at hl 0 rfl) ?_
  refine g_getR hx hb hts inlX7 hown hK hP 11 ct_11 rfl 2 (by decide) (hts _ wm_4_5) rfl dX7_valueOf_46 ?_
  refine g_alen hx hb hK hP 14 ct_14 dX7_valueOf_49 ?_
  refine lv_topc (v := 32) (by decide) ?_
  refine lv_icmp_ge (tgt := 128) hx hb dX7_valueOf_50 (by decide) (fun q => ?_) (fun q => ?_)
  · exact wX7_valueOf_s128 C n K13 b2 v1 v3 v4 v5 v6 ib2 st res hK13 (it hf q) H locs ls (lv_sub hl [0, 1, 2, 3, 4, 5, 6] rfl) hP hS
  · exact wX7_valueOf_s53 C n K13 b2 v1 v3 v4 v5 v6 v7 ib2 st res hK13 (ie hf q) H locs ls (lv_sub hl [0, 1, 2, 3, 4, 5, 6, 7] rfl) hP hS
def fX7_valueOf_s27 (n : Nat) (K13 : Int32 → Int32 → Int32 → Int32 → Int32 → St → Option (Int64 × St)) (b2 : Nat) (v1 : Int32) (v3 : Int32) (v4 : Int32) (v5 : Int32) (v6 : Int32) (st : St) : Option (Int64 × St) := if inb v6 1440 = true then (if (st.1 12 v6.toNatClampNeg) ≤ (-8) then fX7_valueOf_s86 n K13 b2 v1 v3 v4 v5 v6 (st.1 12 v6.toNatClampNeg) st else fX7_valueOf_s43 n K13 b2 v1 v3 v4 v5 v6 (st.1 12 v6.toNatClampNeg) st) else none
set_option maxHeartbeats 4000000 in
set_option maxRecDepth 100000 in
theorem wX7_valueOf_s27 (C : Cx p s m args meth c cX7_valueOf 8 wsL_law RX7 (some .long) D G ad) (n : Nat) (K13 : Int32 → Int32 → Int32 → Int32 → Int32 → St → Option (Int64 × St)) (b2 : Nat) (v1 : Int32) (v3 : Int32) (v4 : Int32) (v5 : Int32) (v6 : Int32) (ib2 : isFl b2)  (st : St) (res : (Int64 × St)) (hK13 : ∀ (v1 : Int32) (v3 : Int32) (v4 : Int32) (v5 : Int32) (v6 : Int32) (st : St), K13 v1 v3 v4 v5 v6 st = some res → At p l e (rmK 3) s m args below meth c D G ad (MQJ D G ad below args s res) 8 st [(0, .ref (ad 11)), (1, .int v1), (2, .ref (ad b2)), (3, .int v3), (4, .int v4), (5, .int v5), (6, .int v6)] 13 []) (hf : fX7_valueOf_s27 n K13 b2 v1 v3 v4 v5 v6 st = some res) : At p l e (rmK 3) s m args below meth c D G ad (MQJ D G ad below args s res) 8 st [(0, .ref (ad 11)), (1, .int v1), (2, .ref (ad b2)), (3, .int v3), (4, .int v4), (5, .int v5), (6, .int v6)] 27 [] := by
  obtain ⟨hx, hb, hml, hown, hts, hr, hlk, hK, had, hSt⟩ := id C
  intro H locs ls hl hP hS
  unfold fX7_valueOf_s27 at hf
  refine lv_aload_n hx hb dX7_valueOf_27 rfl (lv_at hl 0 rfl) ?_
  refine g_getR hx hb hts inlX7 hown hK hP 11 ct_11 rfl 0 (by decide) (hts _ wm_4_3) rfl dX7_valueOf_28 ?_
  refine lv_iload hx hb dX7_valueOf_31 (lv_at hl 6 rfl) ?_
  obtain ⟨g1, hf⟩ := gd hf
  refine g_iald hx hb hK hP 12 ct_12 g1 dX7_valueOf_33 ?_
  refine lv_istore (lv' := [(7, .int (st.1 12 v6.toNatClampNeg)), (0, .ref (ad 11)), (1, .int v1), (2, .ref (ad b2)), (3, .int v3), (4, .int v4), (5, .int v5), (6, .int v6)]) hx hb dX7_valueOf_34 hl (by decide) rfl (fun ls hl => ?_)
  refine lv_iload hx hb dX7_valueOf_36 (lv_at hl 0 rfl) ?_
  refine lv_bipush (v := (-8)) hx hb dX7_valueOf_38 (by decide) ?_
  refine lv_icmp_le (tgt := 86) hx hb dX7_valueOf_40 (by decide) (fun q => ?_) (fun q => ?_)
  · exact wX7_valueOf_s86 C n K13 b2 v1 v3 v4 v5 v6 (st.1 12 v6.toNatClampNeg) ib2 st res hK13 (it hf q) H locs ls (lv_sub hl [1, 2, 3, 4, 5, 6, 7, 0] rfl) hP hS
  · exact wX7_valueOf_s43 C n K13 b2 v1 v3 v4 v5 v6 (st.1 12 v6.toNatClampNeg) ib2 st res hK13 (ie hf q) H locs ls (lv_sub hl [1, 2, 3, 4, 5, 6, 7, 0] rfl) hP hS
def fX7_valueOf_s13 (n : Nat) (K13 : Int32 → Int32 → Int32 → Int32 → Int32 → St → Option (Int64 × St)) (b2 : Nat) (v1 : Int32) (v3 : Int32) (v4 : Int32) (v5 : Int32) (v6 : Int32) (st : St) : Option (Int64 × St) := if inb v1 12 = true then (if (v5 + (st.1 13 v1.toNatClampNeg)) ≤ v6 then fX7_valueOf_s134 n b2 v4 st else fX7_valueOf_s27 n K13 b2 v1 v3 v4 v5 v6 st) else none
set_option maxHeartbeats 4000000 in
set_option maxRecDepth 100000 in
theorem wX7_valueOf_s13 (C : Cx p s m args meth c cX7_valueOf 8 wsL_law RX7 (some .long) D G ad) (n : Nat) (K13 : Int32 → Int32 → Int32 → Int32 → Int32 → St → Option (Int64 × St)) (b2 : Nat) (v1 : Int32) (v3 : Int32) (v4 : Int32) (v5 : Int32) (v6 : Int32) (ib2 : isFl b2)  (st : St) (res : (Int64 × St)) (hK13 : ∀ (v1 : Int32) (v3 : Int32) (v4 : Int32) (v5 : Int32) (v6 : Int32) (st : St), K13 v1 v3 v4 v5 v6 st = some res → At p l e (rmK 3) s m args below meth c D G ad (MQJ D G ad below args s res) 8 st [(0, .ref (ad 11)), (1, .int v1), (2, .ref (ad b2)), (3, .int v3), (4, .int v4), (5, .int v5), (6, .int v6)] 13 []) (hf : fX7_valueOf_s13 n K13 b2 v1 v3 v4 v5 v6 st = some res) : At p l e (rmK 3) s m args below meth c D G ad (MQJ D G ad below args s res) 8 st [(0, .ref (ad 11)), (1, .int v1), (2, .ref (ad b2)), (3, .int v3), (4, .int v4), (5, .int v5), (6, .int v6)] 13 [] := by
  obtain ⟨hx, hb, hml, hown, hts, hr, hlk, hK, had, hSt⟩ := id C
  intro H locs ls hl hP hS
  unfold fX7_valueOf_s13 at hf
  refine lv_iload hx hb dX7_valueOf_13 (lv_at hl 6 rfl) ?_
  refine lv_iload hx hb dX7_valueOf_15 (lv_at hl 5 rfl) ?_
  refine lv_aload_n hx hb dX7_valueOf_17 rfl (lv_at hl 0 rfl) ?_
  refine g_getR hx hb hts inlX7 hown hK hP 11 ct_11 rfl 1 (by decide) (hts _ wm_4_4) rfl dX7_valueOf_18 ?_
  refine lv_iload_n hx hb dX7_valueOf_21 rfl (lv_at hl 1 rfl) ?_
  obtain ⟨g1, hf⟩ := gd hf
  refine g_iald hx hb hK hP 13 ct_13 g1 dX7_valueOf_22 ?_
  refine lv_iadd hx hb dX7_valueOf_23 ?_
  refine lv_icmp_ge (tgt := 134) hx hb dX7_valueOf_24 (by decide) (fun q => ?_) (fun q => ?_)
  · exact wX7_valueOf_s134 C n b2 v4 ib2 st res (it hf q) H locs ls (lv_sub hl [0, 4] rfl) hP hS
  · exact wX7_valueOf_s27 C n K13 b2 v1 v3 v4 v5 v6 ib2 st res hK13 (ie hf q) H locs ls (lv_sub hl [0, 1, 2, 3, 4, 5, 6] rfl) hP hS
def fX7_valueOf_L13 (n : Nat)  (b2 : Nat) : Nat → Int32 → Int32 → Int32 → Int32 → Int32 → St → Option (Int64 × St)
  | 0, _, _, _, _, _, _ => none
  | k + 1, v1, v3, v4, v5, v6, st => fX7_valueOf_s13 n (fX7_valueOf_L13 n b2 k) b2 v1 v3 v4 v5 v6 st
theorem wX7_valueOf_L13 (C : Cx p s m args meth c cX7_valueOf 8 wsL_law RX7 (some .long) D G ad) (n : Nat)  (b2 : Nat) (ib2 : isFl b2) (res : (Int64 × St))  : ∀ (k : Nat) (v1 : Int32) (v3 : Int32) (v4 : Int32) (v5 : Int32) (v6 : Int32)  (st : St), fX7_valueOf_L13 n b2 k v1 v3 v4 v5 v6 st = some res → At p l e (rmK 3) s m args below meth c D G ad (MQJ D G ad below args s res) 8 st [(0, .ref (ad 11)), (1, .int v1), (2, .ref (ad b2)), (3, .int v3), (4, .int v4), (5, .int v5), (6, .int v6)] 13 [] := by
  intro k
  induction k with
  | zero => intro v1 v3 v4 v5 v6  st h; exact absurd h (by intro q; cases q)
  | succ k ih => intro v1 v3 v4 v5 v6  st h; exact wX7_valueOf_s13 C n (fX7_valueOf_L13 n b2 k) b2 v1 v3 v4 v5 v6 ib2  st res ih h
def fX7_valueOf_s0 (n : Nat)  (b2 : Nat) (v1 : Int32) (v3 : Int32) (st : St) : Option (Int64 × St) := fX7_valueOf_L13 n b2 n v1 v3 0 (v1 * 120) (v1 * 120) st
set_option maxHeartbeats 4000000 in
set_option maxRecDepth 100000 in
theorem wX7_valueOf_s0 (C : Cx p s m args meth c cX7_valueOf 8 wsL_law RX7 (some .long) D G ad) (n : Nat)  (b2 : Nat) (v1 : Int32) (v3 : Int32) (ib2 : isFl b2)  (st : St) (res : (Int64 × St))  (hf : fX7_valueOf_s0 n  b2 v1 v3 st = some res) : At p l e (rmK 3) s m args below meth c D G ad (MQJ D G ad below args s res) 8 st [(0, .ref (ad 11)), (1, .int v1), (2, .ref (ad b2)), (3, .int v3)] 0 [] := by
  obtain ⟨hx, hb, hml, hown, hts, hr, hlk, hK, had, hSt⟩ := id C
  intro H locs ls hl hP hS
  unfold fX7_valueOf_s0 at hf
  refine lv_iconst (v := 0) hx hb dX7_valueOf_0 (by decide) ?_
  refine lv_istore (lv' := [(4, .int 0), (0, .ref (ad 11)), (1, .int v1), (2, .ref (ad b2)), (3, .int v3)]) hx hb dX7_valueOf_1 hl (by decide) rfl (fun ls hl => ?_)
  refine lv_iload_n hx hb dX7_valueOf_3 rfl (lv_at hl 2 rfl) ?_
  refine lv_bipush (v := 120) hx hb dX7_valueOf_4 (by decide) ?_
  refine lv_imul hx hb dX7_valueOf_6 ?_
  refine lv_istore (lv' := [(5, .int (v1 * 120)), (4, .int 0), (0, .ref (ad 11)), (1, .int v1), (2, .ref (ad b2)), (3, .int v3)]) hx hb dX7_valueOf_7 hl (by decide) rfl (fun ls hl => ?_)
  refine lv_iload hx hb dX7_valueOf_9 (lv_at hl 0 rfl) ?_
  refine lv_istore (lv' := [(6, .int (v1 * 120)), (5, .int (v1 * 120)), (4, .int 0), (0, .ref (ad 11)), (1, .int v1), (2, .ref (ad b2)), (3, .int v3)]) hx hb dX7_valueOf_11 hl (by decide) rfl (fun ls hl => ?_)
  exact wX7_valueOf_L13 C n b2 ib2 res n v1 v3 0 (v1 * 120) (v1 * 120) st hf H locs ls (lv_sub hl [3, 4, 5, 6, 2, 1, 0] rfl) hP hS
def fX7_valueOf (n : Nat) (b2 : Nat) (a1 : Int32) (a3 : Int32) (st : St) : Option (Int64 × St) := fX7_valueOf_s0 n b2 a1 a3 st
theorem okX7_valueOf : okY yX7_valueOf RX7 3 := by unfold okY; decide +kernel
end
set_option maxRecDepth 100000 in
theorem kX7_valueOf (l : Launch) (D : va_G) (G : G3) (ad : Nat → Nat) (had : Adr ad) (n : Nat) (b2 : Nat) (ib2 : isFl b2) (a1 : Int32) (a3 : Int32) (st : St) (res : (Int64 × St)) (hf : fX7_valueOf n b2 a1 a3 st = some res) {sz : Nat} : CtJ l yX7_valueOf (wsU yX7_valueOf cX7_valueOf 8 (some .long)) (rmK 3) D G ad sz [.ref (ad 11), .int a1, .ref (ad b2), .int a3] st res := by
  refine Met.ofW (cc := cX7_valueOf) (maxL := 8) (ret := (some .long)) (by decide) rfl ?_
  intro p e s m args below meth c s₁ B hml hv
  obtain ⟨rfl, hsz, hP, hK, hSt⟩ := hv
  have hts := atoms_spec (ws := wsU yX7_valueOf cX7_valueOf 8 (some .long)) B.pre
  have C : Cx p s m _ meth c cX7_valueOf 8 wsL_law RX7 (some .long) D G ad := ⟨B.exec, B.bytes, hml, findClass_of_methodNamed B.named, fun w h => hts w (List.mem_cons_of_mem _ h), B.returns, B.notSynchronized, hK, had, hSt⟩
  subst hsz
  have hl := lv_entry ([.ref (ad 11), .int a1, .ref (ad b2), .int a3]) (n := 8) (Nat.le_of_ble_eq_true rfl)
  rw [lg_entry_eq]
  generalize (lg_sl ([.ref (ad 11), .int a1, .ref (ad b2), .int a3]) ++ List.replicate (8 - (lg_sl ([.ref (ad 11), .int a1, .ref (ad b2), .int a3])).length) Slot.unset).toArray = ls at hl ⊢
  exact wX7_valueOf_s0 C n b2 a1 a3 ib2  st res hf s.heap [] ls (lv_sub hl [0, 1, 2, 3] rfl) hP va_S.rf
