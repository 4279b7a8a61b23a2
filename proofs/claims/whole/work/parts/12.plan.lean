theorem wm_1_15 : Cond.initialized RX6 ∈ wsL_law := in_r1 _ (mm_at 15 rfl)
theorem wm_3_6 : Cond.initialized RX1 ∈ wsL_law := in_r3 _ (mm_at 6 rfl)
theorem wm_3_15 : Cond.fieldLink RX6 9 "OrderEcho$Plan" "kind" "[I" ∈ wsL_law := in_r3 _ (mm_at 15 rfl)
theorem wm_3_16 : Cond.fieldLink RX6 15 "OrderEcho$Plan" "supplier" "[I" ∈ wsL_law := in_r3 _ (mm_at 16 rfl)
theorem wm_3_17 : Cond.fieldLink RX6 18 "OrderEcho$Plan" "way" "[I" ∈ wsL_law := in_r3 _ (mm_at 17 rfl)
theorem wm_3_18 : Cond.fieldLink RX6 21 "OrderEcho$Plan" "delay" "[I" ∈ wsL_law := in_r3 _ (mm_at 18 rfl)
theorem wm_3_19 : Cond.fieldLink RX6 24 "OrderEcho$Plan" "lot" "[I" ∈ wsL_law := in_r3 _ (mm_at 19 rfl)
theorem wm_3_20 : Cond.fieldLink RX6 27 "OrderEcho$Plan" "cap" "[I" ∈ wsL_law := in_r3 _ (mm_at 20 rfl)
theorem wm_3_21 : Cond.fieldLink RX6 30 "OrderEcho$Plan" "hold" "[I" ∈ wsL_law := in_r3 _ (mm_at 21 rfl)
theorem wm_3_22 : Cond.fieldLink RX6 33 "OrderEcho$Plan" "lack" "[I" ∈ wsL_law := in_r3 _ (mm_at 22 rfl)
theorem wm_3_23 : Cond.fieldLink RX6 36 "OrderEcho$Plan" "rule" "[I" ∈ wsL_law := in_r3 _ (mm_at 23 rfl)
theorem wm_4_19 : Cond.fieldLink RX5 9 "OrderEcho$Past" "seen" "[I" ∈ wsL_law := in_r4 _ (mm_at 19 rfl)
theorem wm_4_20 : Cond.fieldLink RX5 15 "OrderEcho$Past" "ordered" "[I" ∈ wsL_law := in_r4 _ (mm_at 20 rfl)
theorem wm_9_13 : Cond.instanceMethod yX6_has ∈ wsL_law := in_r9 _ (mm_at 13 rfl)
theorem wm_9_14 : Cond.selects RX6 yX6_has yX6_has ∈ wsL_law := in_r9 _ (mm_at 14 rfl)
theorem wm_9_15 : Cond.code yX6_has cX6_has 2 (some .boolean) ∈ wsL_law := in_r9 _ (mm_at 15 rfl)
theorem wm_9_16 : Cond.fieldLink RX6 39 "OrderEcho$Plan" "stages" "I" ∈ wsL_law := in_r9 _ (mm_at 16 rfl)
theorem wm_10_0 : Cond.methodLink RX6 43 yX6_has ∈ wsL_law := in_r10 _ (mm_at 0 rfl)
theorem wm_10_5 : Cond.fieldLink RX6 47 "OrderEcho$Plan" "firstStock" "J" ∈ wsL_law := in_r10 _ (mm_at 5 rfl)
theorem wm_10_6 : Cond.fieldLink RX6 51 "OrderEcho$Plan" "shops" "I" ∈ wsL_law := in_r10 _ (mm_at 6 rfl)
theorem wm_13_9 : Cond.instanceMethod yX1_latest ∈ wsL_law := in_r13 _ (mm_at 9 rfl)
theorem wm_13_10 : Cond.selects RX1 yX1_latest yX1_latest ∈ wsL_law := in_r13 _ (mm_at 10 rfl)
theorem wm_13_11 : Cond.code yX1_latest cX1_latest 3 (some .int) ∈ wsL_law := in_r13 _ (mm_at 11 rfl)
theorem wm_13_12 : Cond.fieldLink RX1 49 "OrderEcho$Flow" "weeks" "I" ∈ wsL_law := in_r13 _ (mm_at 12 rfl)
theorem wm_20_22 : Cond.static Lib.Math.max.name ∈ wsL_law := in_r20 _ (mm_at 22 rfl)
theorem wm_20_23 : Cond.code Lib.Math.max.name Lib.Math.max.code 2 (some .int) ∈ wsL_law := in_r20 _ (mm_at 23 rfl)
theorem wm_22_10 : Cond.fieldLink RX5 18 "OrderEcho$Flow" "weeks" "I" ∈ wsL_law := in_r22 _ (mm_at 10 rfl)
theorem wm_22_11 : Cond.methodLink RX5 24 Lib.Math.max.name ∈ wsL_law := in_r22 _ (mm_at 11 rfl)
theorem wm_22_12 : Cond.fieldLink RX5 30 "OrderEcho$Flow" "seen" "[I" ∈ wsL_law := in_r22 _ (mm_at 12 rfl)
theorem wm_22_13 : Cond.fieldLink RX5 35 "OrderEcho$Flow" "ordered" "[I" ∈ wsL_law := in_r22 _ (mm_at 13 rfl)
theorem wm_22_14 : Cond.methodLink RX5 31 yX1_latest ∈ wsL_law := in_r22 _ (mm_at 14 rfl)
section
variable {p : Program} {l : Launch} {e : Env} {s : State} {m : MethodId} {args : Array Value} {below : List Frame} {meth : Method} {c : Code} {D : va_G} {G : G3} {ad : Nat → Nat}
def fX6_has_s17 (n : Nat)   (k0 : Int32) (st : St) : Option (Int32 × St) := if zb k0 = true then (some (k0, st)) else none
set_option maxHeartbeats 4000000 in
set_option maxRecDepth 100000 in
theorem wX6_has_s17 (C : Cx p s m args meth c cX6_has 2 wsL_law RX6 (some .boolean) D G ad) (n : Nat)   (k0 : Int32)   (st : St) (res : (Int32 × St))  (hf : fX6_has_s17 n   k0 st = some res) : At p l e (rmK 0) s m args below meth c D G ad (MQI D G ad below args s res) 2 st [] 17 [.int k0] := by
  obtain ⟨hx, hb, hml, hown, hts, hr, hlk, hK, had, hSt⟩ := id C
  intro H locs ls hl hP hS
  unfold fX6_has_s17 at hf
  obtain ⟨gz, hf⟩ := gd hf
  exact g_zret hx hb hr hlk hP hS (zb_of gz) dX6_has_17 hf
def fX6_has_s16 (n : Nat)    (st : St) : Option (Int32 × St) := fX6_has_s17 n 0 st
set_option maxHeartbeats 4000000 in
set_option maxRecDepth 100000 in
theorem wX6_has_s16 (C : Cx p s m args meth c cX6_has 2 wsL_law RX6 (some .boolean) D G ad) (n : Nat)      (st : St) (res : (Int32 × St))  (hf : fX6_has_s16 n    st = some res) : At p l e (rmK 0) s m args below meth c D G ad (MQI D G ad below args s res) 2 st [] 16 [] := by
  obtain ⟨hx, hb, hml, hown, hts, hr, hlk, hK, had, hSt⟩ := id C
  intro H locs ls hl hP hS
  unfold fX6_has_s16 at hf
  refine lv_iconst (v := 0) hx hb dX6_has_16 (by decide) ?_
  exact wX6_has_s17 C n 0 st res hf H locs ls (lv_sub hl [] rfl) hP hS
def fX6_has_s12 (n : Nat)    (st : St) : Option (Int32 × St) := fX6_has_s17 n 1 st
set_option maxHeartbeats 4000000 in
set_option maxRecDepth 100000 in
theorem wX6_has_s12 (C : Cx p s m args meth c cX6_has 2 wsL_law RX6 (some .boolean) D G ad) (n : Nat)      (st : St) (res : (Int32 × St))  (hf : fX6_has_s12 n    st = some res) : At p l e (rmK 0) s m args below meth c D G ad (MQI D G ad below args s res) 2 st [] 12 [] := by
  obtain ⟨hx, hb, hml, hown, hts, hr, hlk, hK, had, hSt⟩ := id C
  intro H locs ls hl hP hS
  unfold fX6_has_s12 at hf
  refine lv_iconst (v := 1) hx hb dX6_has_12 (by decide) ?_
  refine lv_goto (tgt := 17) hx hb dX6_has_13 (by decide) ?_
  exact wX6_has_s17 C n 1 st res hf H locs ls (lv_sub hl [] rfl) hP hS
def fX6_has_s4 (n : Nat)   (v1 : Int32) (st : St) : Option (Int32 × St) := if (st.1 1 9) ≤ v1 then fX6_has_s16 n st else fX6_has_s12 n st
set_option maxHeartbeats 4000000 in
set_option maxRecDepth 100000 in
theorem wX6_has_s4 (C : Cx p s m args meth c cX6_has 2 wsL_law RX6 (some .boolean) D G ad) (n : Nat)   (v1 : Int32)   (st : St) (res : (Int32 × St))  (hf : fX6_has_s4 n   v1 st = some res) : At p l e (rmK 0) s m args below meth c D G ad (MQI D G ad below args s res) 2 st [(0, .ref (ad 1)), (1, .int v1)] 4 [] := by
  obtain ⟨hx, hb, hml, hown, hts, hr, hlk, hK, had, hSt⟩ := id C
  intro H locs ls hl hP hS
  unfold fX6_has_s4 at hf
  refine lv_iload_n hx hb dX6_has_4 rfl (lv_at hl 1 rfl) ?_
  refine lv_aload_n hx hb dX6_has_5 rfl (lv_at hl 0 rfl) ?_
  refine g_getI hx hb hts inlX6 hown hK hP 1 ct_1 rfl 9 (by decide) (hts _ wm_9_16) rfl dX6_has_6 ?_
  refine lv_icmp_ge (tgt := 16) hx hb dX6_has_9 (by decide) (fun q => ?_) (fun q => ?_)
  · exact wX6_has_s16 C n st res (it hf q) H locs ls (lv_sub hl [] rfl) hP hS
  · exact wX6_has_s12 C n st res (ie hf q) H locs ls (lv_sub hl [] rfl) hP hS
def fX6_has_s0 (n : Nat)   (v1 : Int32) (st : St) : Option (Int32 × St) := if v1 < 0 then fX6_has_s16 n st else fX6_has_s4 n v1 st
set_option maxHeartbeats 4000000 in
set_option maxRecDepth 100000 in
theorem wX6_has_s0 (C : Cx p s m args meth c cX6_has 2 wsL_law RX6 (some .boolean) D G ad) (n : Nat)   (v1 : Int32)   (st : St) (res : (Int32 × St))  (hf : fX6_has_s0 n   v1 st = some res) : At p l e (rmK 0) s m args below meth c D G ad (MQI D G ad below args s res) 2 st [(0, .ref (ad 1)), (1, .int v1)] 0 [] := by
  obtain ⟨hx, hb, hml, hown, hts, hr, hlk, hK, had, hSt⟩ := id C
  intro H locs ls hl hP hS
  unfold fX6_has_s0 at hf
  refine lv_iload_n hx hb dX6_has_0 rfl (lv_at hl 1 rfl) ?_
  refine lv_if_lt (tgt := 16) hx hb dX6_has_1 (by decide) (fun q => ?_) (fun q => ?_)
  · exact wX6_has_s16 C n st res (it hf q) H locs ls (lv_sub hl [] rfl) hP hS
  · exact wX6_has_s4 C n v1 st res (ie hf q) H locs ls (lv_sub hl [0, 1] rfl) hP hS
def fX6_has (n : Nat)  (a1 : Int32) (st : St) : Option (Int32 × St) := fX6_has_s0 n a1 st
theorem okX6_has : okY yX6_has RX6 1 := by unfold okY; decide +kernel
end
set_option maxRecDepth 100000 in
theorem kX6_has (l : Launch) (D : va_G) (G : G3) (ad : Nat → Nat) (had : Adr ad) (n : Nat)   (a1 : Int32) (st : St) (res : (Int32 × St)) (hf : fX6_has n  a1 st = some res) {sz : Nat} : CtI l yX6_has (wsU yX6_has cX6_has 2 (some .boolean)) (rmK 0) D G ad sz [.ref (ad 1), .int a1] st res := by
  refine Met.ofW (cc := cX6_has) (maxL := 2) (ret := (some .boolean)) (by decide) rfl ?_
  intro p e s m args below meth c s₁ B hml hv
  obtain ⟨rfl, hsz, hP, hK, hSt⟩ := hv
  have hts := atoms_spec (ws := wsU yX6_has cX6_has 2 (some .boolean)) B.pre
  have C : Cx p s m _ meth c cX6_has 2 wsL_law RX6 (some .boolean) D G ad := ⟨B.exec, B.bytes, hml, findClass_of_methodNamed B.named, fun w h => hts w (List.mem_cons_of_mem _ h), B.returns, B.notSynchronized, hK, had, hSt⟩
  subst hsz
  have hl := lv_entry ([.ref (ad 1), .int a1]) (n := 2) (Nat.le_of_ble_eq_true rfl)
  rw [lg_entry_eq]
  generalize (lg_sl ([.ref (ad 1), .int a1]) ++ List.replicate (2 - (lg_sl ([.ref (ad 1), .int a1])).length) Slot.unset).toArray = ls at hl ⊢
  exact wX6_has_s0 C n  a1   st res hf s.heap [] ls (lv_sub hl [0, 1] rfl) hP va_S.rf
section
variable {p : Program} {l : Launch} {e : Env} {s : State} {m : MethodId} {args : Array Value} {below : List Frame} {meth : Method} {c : Code} {D : va_G} {G : G3} {ad : Nat → Nat}
def fX6_isShop_s23 (n : Nat)   (k0 : Int32) (st : St) : Option (Int32 × St) := if zb k0 = true then (some (k0, st)) else none
set_option maxHeartbeats 4000000 in
set_option maxRecDepth 100000 in
theorem wX6_isShop_s23 (C : Cx p s m args meth c cX6_isShop 2 wsL_law RX6 (some .boolean) D G ad) (n : Nat)   (k0 : Int32)   (st : St) (res : (Int32 × St))  (hf : fX6_isShop_s23 n   k0 st = some res) : At p l e (rmK 1) s m args below meth c D G ad (MQI D G ad below args s res) 2 st [] 23 [.int k0] := by
  obtain ⟨hx, hb, hml, hown, hts, hr, hlk, hK, had, hSt⟩ := id C
  intro H locs ls hl hP hS
  unfold fX6_isShop_s23 at hf
  obtain ⟨gz, hf⟩ := gd hf
  exact g_zret hx hb hr hlk hP hS (zb_of gz) dX6_isShop_23 hf
def fX6_isShop_s22 (n : Nat)    (st : St) : Option (Int32 × St) := fX6_isShop_s23 n 0 st
set_option maxHeartbeats 4000000 in
set_option maxRecDepth 100000 in
theorem wX6_isShop_s22 (C : Cx p s m args meth c cX6_isShop 2 wsL_law RX6 (some .boolean) D G ad) (n : Nat)      (st : St) (res : (Int32 × St))  (hf : fX6_isShop_s22 n    st = some res) : At p l e (rmK 1) s m args below meth c D G ad (MQI D G ad below args s res) 2 st [] 22 [] := by
  obtain ⟨hx, hb, hml, hown, hts, hr, hlk, hK, had, hSt⟩ := id C
  intro H locs ls hl hP hS
  unfold fX6_isShop_s22 at hf
  refine lv_iconst (v := 0) hx hb dX6_isShop_22 (by decide) ?_
  exact wX6_isShop_s23 C n 0 st res hf H locs ls (lv_sub hl [] rfl) hP hS
def fX6_isShop_s18 (n : Nat)    (st : St) : Option (Int32 × St) := fX6_isShop_s23 n 1 st
set_option maxHeartbeats 4000000 in
set_option maxRecDepth 100000 in
theorem wX6_isShop_s18 (C : Cx p s m args meth c cX6_isShop 2 wsL_law RX6 (some .boolean) D G ad) (n : Nat)      (st : St) (res : (Int32 × St))  (hf : fX6_isShop_s18 n    st = some res) : At p l e (rmK 1) s m args below meth c D G ad (MQI D G ad below args s res) 2 st [] 18 [] := by
  obtain ⟨hx, hb, hml, hown, hts, hr, hlk, hK, had, hSt⟩ := id C
  intro H locs ls hl hP hS
  unfold fX6_isShop_s18 at hf
  refine lv_iconst (v := 1) hx hb dX6_isShop_18 (by decide) ?_
  refine lv_goto (tgt := 23) hx hb dX6_isShop_19 (by decide) ?_
  exact wX6_isShop_s23 C n 1 st res hf H locs ls (lv_sub hl [] rfl) hP hS
def fX6_isShop_s8 (n : Nat)   (v1 : Int32) (st : St) : Option (Int32 × St) := if inb v1 8 = true then (if (st.1 2 v1.toNatClampNeg) = 3 then fX6_isShop_s18 n st else fX6_isShop_s22 n st) else none
set_option maxHeartbeats 4000000 in
set_option maxRecDepth 100000 in
theorem wX6_isShop_s8 (C : Cx p s m args meth c cX6_isShop 2 wsL_law RX6 (some .boolean) D G ad) (n : Nat)   (v1 : Int32)   (st : St) (res : (Int32 × St))  (hf : fX6_isShop_s8 n   v1 st = some res) : At p l e (rmK 1) s m args below meth c D G ad (MQI D G ad below args s res) 2 st [(0, .ref (ad 1)), (1, .int v1)] 8 [] := by
  obtain ⟨hx, hb, hml, hown, hts, hr, hlk, hK, had, hSt⟩ := id C
  intro H locs ls hl hP hS
  unfold fX6_isShop_s8 at hf
  refine lv_aload_n hx hb dX6_isShop_8 rfl (lv_at hl 0 rfl) ?_
  refine g_getR hx hb hts inlX6 hown hK hP 1 ct_1 rfl 0 (by decide) (hts _ wm_3_15) rfl dX6_isShop_9 ?_
  refine lv_iload_n hx hb dX6_isShop_12 rfl (lv_at hl 1 rfl) ?_
  obtain ⟨g1, hf⟩ := gd hf
  refine g_iald hx hb hK hP 2 ct_2 g1 dX6_isShop_13 ?_
  refine lv_iconst (v := 3) hx hb dX6_isShop_14 (by decide) ?_
  refine lv_icmp_ne (tgt := 22) hx hb dX6_isShop_15 (by decide) (fun q => ?_) (fun q => ?_)
  · exact wX6_isShop_s22 C n st res (ie hf q) H locs ls (lv_sub hl [] rfl) hP hS
  · exact wX6_isShop_s18 C n st res (it hf q) H locs ls (lv_sub hl [] rfl) hP hS
def fX6_isShop_s5 (n : Nat)   (v1 : Int32) (k0 : Int32) (st : St) : Option (Int32 × St) := if k0 = 0 then fX6_isShop_s22 n st else fX6_isShop_s8 n v1 st
set_option maxHeartbeats 4000000 in
set_option maxRecDepth 100000 in
theorem wX6_isShop_s5 (C : Cx p s m args meth c cX6_isShop 2 wsL_law RX6 (some .boolean) D G ad) (n : Nat)   (v1 : Int32) (k0 : Int32)   (st : St) (res : (Int32 × St))  (hf : fX6_isShop_s5 n   v1 k0 st = some res) : At p l e (rmK 1) s m args below meth c D G ad (MQI D G ad below args s res) 2 st [(0, .ref (ad 1)), (1, .int v1)] 5 [.int k0] := by
  obtain ⟨hx, hb, hml, hown, hts, hr, hlk, hK, had, hSt⟩ := id C
  intro H locs ls hl hP hS
  unfold fX6_isShop_s5 at hf
  refine lv_if_eq (tgt := 22) hx hb dX6_isShop_5 (by decide) (fun q => ?_) (fun q => ?_)
  · exact wX6_isShop_s22 C n st res (it hf q) H locs ls (lv_sub hl [] rfl) hP hS
  · exact wX6_isShop_s8 C n v1 st res (ie hf q) H locs ls (lv_sub hl [0, 1] rfl) hP hS
def fX6_isShop_s0 (n : Nat)   (v1 : Int32) (st : St) : Option (Int32 × St) := (fX6_has n v1 st).bind (fun q => fX6_isShop_s5 n v1 q.1 q.2)
set_option maxHeartbeats 4000000 in
set_option maxRecDepth 100000 in
theorem wX6_isShop_s0 (C : Cx p s m args meth c cX6_isShop 2 wsL_law RX6 (some .boolean) D G ad) (n : Nat)   (v1 : Int32)   (st : St) (res : (Int32 × St))  (hf : fX6_isShop_s0 n   v1 st = some res) : At p l e (rmK 1) s m args below meth c D G ad (MQI D G ad below args s res) 2 st [(0, .ref (ad 1)), (1, .int v1)] 0 [] := by
  obtain ⟨hx, hb, hml, hown, hts, hr, hlk, hK, had, hSt⟩ := id C
  intro H locs ls hl hP hS
  unfold fX6_isShop_s0 at hf
  refine lv_aload_n hx hb dX6_isShop_0 rfl (lv_at hl 0 rfl) ?_
  refine lv_iload_n hx hb dX6_isShop_1 rfl (lv_at hl 1 rfl) ?_
  obtain ⟨q, hq, hf⟩ := bd hf
  refine gcV_i (k := 0) (o := 1) (As := [.int v1]) (rest := []) hx hb hml hown hts hK hSt hP hS hl.1 (goodV wm_10_0 wm_9_13 wm_9_14 wm_1_15 wm_9_15) okX6_has ct_1 rfl rfl (Nat.le_of_ble_eq_true rfl) (Nat.le_of_ble_eq_true rfl) rfl rfl (Nat.le_of_ble_eq_true rfl) dX6_isShop_2 (kX6_has l D G ad had n  v1 st q hq) (fun H locs hP hS => ?_)
  exact wX6_isShop_s5 C n v1 q.1 q.2 res hf H locs ls (lv_sub hl [0, 1] rfl) hP hS
def fX6_isShop (n : Nat)  (a1 : Int32) (st : St) : Option (Int32 × St) := fX6_isShop_s0 n a1 st
theorem okX6_isShop : okY yX6_isShop RX6 1 := by unfold okY; decide +kernel
end
set_option maxRecDepth 100000 in
theorem kX6_isShop (l : Launch) (D : va_G) (G : G3) (ad : Nat → Nat) (had : Adr ad) (n : Nat)   (a1 : Int32) (st : St) (res : (Int32 × St)) (hf : fX6_isShop n  a1 st = some res) {sz : Nat} : CtI l yX6_isShop (wsU yX6_isShop cX6_isShop 2 (some .boolean)) (rmK 1) D G ad sz [.ref (ad 1), .int a1] st res := by
  refine Met.ofW (cc := cX6_isShop) (maxL := 2) (ret := (some .boolean)) (by decide) rfl ?_
  intro p e s m args below meth c s₁ B hml hv
  obtain ⟨rfl, hsz, hP, hK, hSt⟩ := hv
  have hts := atoms_spec (ws := wsU yX6_isShop cX6_isShop 2 (some .boolean)) B.pre
  have C : Cx p s m _ meth c cX6_isShop 2 wsL_law RX6 (some .boolean) D G ad := ⟨B.exec, B.bytes, hml, findClass_of_methodNamed B.named, fun w h => hts w (List.mem_cons_of_mem _ h), B.returns, B.notSynchronized, hK, had, hSt⟩
  subst hsz
  have hl := lv_entry ([.ref (ad 1), .int a1]) (n := 2) (Nat.le_of_ble_eq_true rfl)
  rw [lg_entry_eq]
  generalize (lg_sl ([.ref (ad 1), .int a1]) ++ List.replicate (2 - (lg_sl ([.ref (ad 1), .int a1])).length) Slot.unset).toArray = ls at hl ⊢
  exact wX6_isShop_s0 C n  a1   st res hf s.heap [] ls (lv_sub hl [0, 1] rfl) hP va_S.rf
section
variable {p : Program} {l : Launch} {e : Env} {s : State} {m : MethodId} {args : Array Value} {below : List Frame} {meth : Method} {c : Code} {D : va_G} {G : G3} {ad : Nat → Nat}
def fX6_settings_s28 (n : Nat)    (st : St) : Option (Nat × St) := some (6, st)
set_option maxHeartbeats 4000000 in
set_option maxRecDepth 100000 in
theorem wX6_settings_s28 (C : Cx p s m args meth c cX6_settings 2 wsL_law RX6 (some (.array .int)) D G ad) (n : Nat)      (st : St) (res : (Nat × St))  (hf : fX6_settings_s28 n    st = some res) : At p l e (rmK 0) s m args below meth c D G ad (MQR D G ad below args s res) 2 st [(0, .ref (ad 1))] 28 [] := by
  obtain ⟨hx, hb, hml, hown, hts, hr, hlk, hK, had, hSt⟩ := id C
  intro H locs ls hl hP hS
  unfold fX6_settings_s28 at hf
  refine lv_aload_n hx hb dX6_settings_28 rfl (lv_at hl 0 rfl) ?_
  refine g_getR hx hb hts inlX6 hown hK hP 1 ct_1 rfl 4 (by decide) (hts _ wm_3_19) rfl dX6_settings_29 ?_
  exact g_aret hx hb hr hlk hP hS dX6_settings_32 hf
def fX6_settings_s33 (n : Nat)    (st : St) : Option (Nat × St) := some (7, st)
set_option maxHeartbeats 4000000 in
set_option maxRecDepth 100000 in
theorem wX6_settings_s33 (C : Cx p s m args meth c cX6_settings 2 wsL_law RX6 (some (.array .int)) D G ad) (n : Nat)      (st : St) (res : (Nat × St))  (hf : fX6_settings_s33 n    st = some res) : At p l e (rmK 0) s m args below meth c D G ad (MQR D G ad below args s res) 2 st [(0, .ref (ad 1))] 33 [] := by
  obtain ⟨hx, hb, hml, hown, hts, hr, hlk, hK, had, hSt⟩ := id C
  intro H locs ls hl hP hS
  unfold fX6_settings_s33 at hf
  refine lv_aload_n hx hb dX6_settings_33 rfl (lv_at hl 0 rfl) ?_
  refine g_getR hx hb hts inlX6 hown hK hP 1 ct_1 rfl 5 (by decide) (hts _ wm_3_20) rfl dX6_settings_34 ?_
  exact g_aret hx hb hr hlk hP hS dX6_settings_37 hf
def fX6_settings_s38 (n : Nat)    (st : St) : Option (Nat × St) := some (8, st)
set_option maxHeartbeats 4000000 in
set_option maxRecDepth 100000 in
theorem wX6_settings_s38 (C : Cx p s m args meth c cX6_settings 2 wsL_law RX6 (some (.array .int)) D G ad) (n : Nat)      (st : St) (res : (Nat × St))  (hf : fX6_settings_s38 n    st = some res) : At p l e (rmK 0) s m args below meth c D G ad (MQR D G ad below args s res) 2 st [(0, .ref (ad 1))] 38 [] := by
  obtain ⟨hx, hb, hml, hown, hts, hr, hlk, hK, had, hSt⟩ := id C
  intro H locs ls hl hP hS
  unfold fX6_settings_s38 at hf
  refine lv_aload_n hx hb dX6_settings_38 rfl (lv_at hl 0 rfl) ?_
  refine g_getR hx hb hts inlX6 hown hK hP 1 ct_1 rfl 6 (by decide) (hts _ wm_3_21) rfl dX6_settings_39 ?_
  exact g_aret hx hb hr hlk hP hS dX6_settings_42 hf
def fX6_settings_s43 (n : Nat)    (st : St) : Option (Nat × St) := some (9, st)
set_option maxHeartbeats 4000000 in
set_option maxRecDepth 100000 in
theorem wX6_settings_s43 (C : Cx p s m args meth c cX6_settings 2 wsL_law RX6 (some (.array .int)) D G ad) (n : Nat)      (st : St) (res : (Nat × St))  (hf : fX6_settings_s43 n    st = some res) : At p l e (rmK 0) s m args below meth c D G ad (MQR D G ad below args s res) 2 st [(0, .ref (ad 1))] 43 [] := by
  obtain ⟨hx, hb, hml, hown, hts, hr, hlk, hK, had, hSt⟩ := id C
  intro H locs ls hl hP hS
  unfold fX6_settings_s43 at hf
  refine lv_aload_n hx hb dX6_settings_43 rfl (lv_at hl 0 rfl) ?_
  refine g_getR hx hb hts inlX6 hown hK hP 1 ct_1 rfl 7 (by decide) (hts _ wm_3_22) rfl dX6_settings_44 ?_
  exact g_aret hx hb hr hlk hP hS dX6_settings_47 hf
def fX6_settings_s0 (n : Nat)   (v1 : Int32) (st : St) : Option (Nat × St) := if v1 = 0 then fX6_settings_s28 n st else if v1 = 1 then fX6_settings_s33 n st else if v1 = 2 then fX6_settings_s38 n st else fX6_settings_s43 n st
set_option maxHeartbeats 4000000 in
set_option maxRecDepth 100000 in
theorem wX6_settings_s0 (C : Cx p s m args meth c cX6_settings 2 wsL_law RX6 (some (.array .int)) D G ad) (n : Nat)   (v1 : Int32)   (st : St) (res : (Nat × St))  (hf : fX6_settings_s0 n   v1 st = some res) : At p l e (rmK 0) s m args below meth c D G ad (MQR D G ad below args s res) 2 st [(0, .ref (ad 1)), (1, .int v1)] 0 [] := by
  obtain ⟨hx, hb, hml, hown, hts, hr, hlk, hK, had, hSt⟩ := id C
  intro H locs ls hl hP hS
  unfold fX6_settings_s0 at hf
  refine lv_iload_n hx hb dX6_settings_0 rfl (lv_at hl 1 rfl) ?_
  by_cases q : v1 = 0
  · rw [q]
    refine lv_tableIn (tgt := 28) hx hb dX6_settings_1 (by decide) (by decide) rfl (by decide) ?_
    exact wX6_settings_s28 C n st res (it hf q) H locs ls (lv_sub hl [0] rfl) hP hS
  replace hf := ie hf q
  have q0 := q
  clear q
  by_cases q : v1 = 1
  · rw [q]
    refine lv_tableIn (tgt := 33) hx hb dX6_settings_1 (by decide) (by decide) rfl (by decide) ?_
    exact wX6_settings_s33 C n st res (it hf q) H locs ls (lv_sub hl [0] rfl) hP hS
  replace hf := ie hf q
  have q1 := q
  clear q
  by_cases q : v1 = 2
  · rw [q]
    refine lv_tableIn (tgt := 38) hx hb dX6_settings_1 (by decide) (by decide) rfl (by decide) ?_
    exact wX6_settings_s38 C n st res (it hf q) H locs ls (lv_sub hl [0] rfl) hP hS
  replace hf := ie hf q
  have q2 := q
  clear q
  have qo : v1.toInt < 0 ∨ 2 < v1.toInt := by
    refine Classical.byContradiction (fun w => ?_)
    have w : v1.toInt = 0 ∨ v1.toInt = 1 ∨ v1.toInt = 2 := by omega
    rcases w with w | w | w
    · exact q0 (Int32.toInt_inj.mp (w.trans (by decide)))
    · exact q1 (Int32.toInt_inj.mp (w.trans (by decide)))
    · exact q2 (Int32.toInt_inj.mp (w.trans (by decide)))
  refine lv_tableOut (tgt := 43) hx hb dX6_settings_1 qo (by decide) ?_
  exact wX6_settings_s43 C n st res hf H locs ls (lv_sub hl [0] rfl) hP hS
def fX6_settings (n : Nat)  (a1 : Int32) (st : St) : Option (Nat × St) := fX6_settings_s0 n a1 st
theorem okX6_settings : okY yX6_settings RX6 1 := by unfold okY; decide +kernel
theorem fX6_settings_ok  {a1 : Int32} {n : Nat} {st : St} {q : (Nat × St)} (h : fX6_settings n  a1 st = some q) : ctab[q.1]? = some (.inr (8, 0)) := by
  simp only [fX6_settings_s28, fX6_settings_s33, fX6_settings_s38, fX6_settings_s43, fX6_settings_s0, fX6_settings] at h
  repeat (split at h; (cases h; rfl))
  cases h; rfl
end
set_option maxRecDepth 100000 in
theorem kX6_settings (l : Launch) (D : va_G) (G : G3) (ad : Nat → Nat) (had : Adr ad) (n : Nat)   (a1 : Int32) (st : St) (res : (Nat × St)) (hf : fX6_settings n  a1 st = some res) {sz : Nat} : CtR l yX6_settings (wsU yX6_settings cX6_settings 2 (some (.array .int))) (rmK 0) D G ad sz [.ref (ad 1), .int a1] st res := by
  refine Met.ofW (cc := cX6_settings) (maxL := 2) (ret := (some (.array .int))) (by decide) rfl ?_
  intro p e s m args below meth c s₁ B hml hv
  obtain ⟨rfl, hsz, hP, hK, hSt⟩ := hv
  have hts := atoms_spec (ws := wsU yX6_settings cX6_settings 2 (some (.array .int))) B.pre
  have C : Cx p s m _ meth c cX6_settings 2 wsL_law RX6 (some (.array .int)) D G ad := ⟨B.exec, B.bytes, hml, findClass_of_methodNamed B.named, fun w h => hts w (List.mem_cons_of_mem _ h), B.returns, B.notSynchronized, hK, had, hSt⟩
  subst hsz
  have hl := lv_entry ([.ref (ad 1), .int a1]) (n := 2) (Nat.le_of_ble_eq_true rfl)
  rw [lg_entry_eq]
  generalize (lg_sl ([.ref (ad 1), .int a1]) ++ List.replicate (2 - (lg_sl ([.ref (ad 1), .int a1])).length) Slot.unset).toArray = ls at hl ⊢
  exact wX6_settings_s0 C n  a1   st res hf s.heap [] ls (lv_sub hl [0, 1] rfl) hP va_S.rf
section
variable {p : Program} {l : Launch} {e : Env} {s : State} {m : MethodId} {args : Array Value} {below : List Frame} {meth : Method} {c : Code} {D : va_G} {G : G3} {ad : Nat → Nat}
def fX6_enlarge_s130 (n : Nat)    (st : St) : Option (Unit × St) := some ((), st)
set_option maxHeartbeats 4000000 in
set_option maxRecDepth 100000 in
theorem wX6_enlarge_s130 (C : Cx p s m args meth c cX6_enlarge 7 wsL_law RX6 none D G ad) (n : Nat)      (st : St) (res : (Unit × St))  (hf : fX6_enlarge_s130 n    st = some res) : At p l e (rmK 0) s m args below meth c D G ad (MQV D G ad below args s res) 7 st [] 130 [] := by
  obtain ⟨hx, hb, hml, hown, hts, hr, hlk, hK, had, hSt⟩ := id C
  intro H locs ls hl hP hS
  unfold fX6_enlarge_s130 at hf
  exact g_vret hx hb hr hlk hP hS dX6_enlarge_130 hf
def fX6_enlarge_s120 (n : Nat)    (st : St) : Option (Unit × St) := fX6_enlarge_s130 n (setI st 1 9 ((st.1 1 9) + 1))
set_option maxHeartbeats 4000000 in
set_option maxRecDepth 100000 in
theorem wX6_enlarge_s120 (C : Cx p s m args meth c cX6_enlarge 7 wsL_law RX6 none D G ad) (n : Nat)      (st : St) (res : (Unit × St))  (hf : fX6_enlarge_s120 n    st = some res) : At p l e (rmK 0) s m args below meth c D G ad (MQV D G ad below args s res) 7 st [(0, .ref (ad 1))] 120 [] := by
  obtain ⟨hx, hb, hml, hown, hts, hr, hlk, hK, had, hSt⟩ := id C
  intro H locs ls hl hP hS
  unfold fX6_enlarge_s120 at hf
  refine lv_aload_n hx hb dX6_enlarge_120 rfl (lv_at hl 0 rfl) ?_
  refine lv_dup hx hb dX6_enlarge_121 rfl ?_
  refine g_getI hx hb hts inlX6 hown hK hP 1 ct_1 rfl 9 (by decide) (hts _ wm_9_16) rfl dX6_enlarge_122 ?_
  refine lv_iconst (v := 1) hx hb dX6_enlarge_125 (by decide) ?_
  refine lv_iadd hx hb dX6_enlarge_126 ?_
  refine g_putI hx hb hts inlX6 tyX6_ok nmX6 hown hK had hP hS 1 ct_1 rfl 9 (by decide) (hts _ wm_9_16) rfl rfl rfl rfl rfl dX6_enlarge_127 (fun H locs hP hS => ?_)
  exact wX6_enlarge_s130 C n (setI st 1 9 ((st.1 1 9) + 1)) res hf H locs ls (lv_sub hl [] rfl) hP hS
def fX6_enlarge_s116 (n : Nat)   (k1 : Int32) (k2 : Int32) (st : St) : Option (Unit × St) := fX6_enlarge_s120 n (setI st 1 10 (k1 + k2))
set_option maxHeartbeats 4000000 in
set_option maxRecDepth 100000 in
theorem wX6_enlarge_s116 (C : Cx p s m args meth c cX6_enlarge 7 wsL_law RX6 none D G ad) (n : Nat)   (k1 : Int32) (k2 : Int32)   (st : St) (res : (Unit × St))  (hf : fX6_enlarge_s116 n   k1 k2 st = some res) : At p l e (rmK 0) s m args below meth c D G ad (MQV D G ad below args s res) 7 st [(0, .ref (ad 1))] 116 [.int k2, .int k1, .ref (ad 1)] := by
  obtain ⟨hx, hb, hml, hown, hts, hr, hlk, hK, had, hSt⟩ := id C
  intro H locs ls hl hP hS
  unfold fX6_enlarge_s116 at hf
  refine lv_iadd hx hb dX6_enlarge_116 ?_
  refine g_putI hx hb hts inlX6 tyX6_ok nmX6 hown hK had hP hS 1 ct_1 rfl 10 (by decide) (hts _ wm_10_6) rfl rfl rfl rfl rfl dX6_enlarge_117 (fun H locs hP hS => ?_)
  exact wX6_enlarge_s120 C n (setI st 1 10 (k1 + k2)) res hf H locs ls (lv_sub hl [0] rfl) hP hS
def fX6_enlarge_s115 (n : Nat)   (k1 : Int32) (st : St) : Option (Unit × St) := fX6_enlarge_s116 n k1 0 st
set_option maxHeartbeats 4000000 in
set_option maxRecDepth 100000 in
theorem wX6_enlarge_s115 (C : Cx p s m args meth c cX6_enlarge 7 wsL_law RX6 none D G ad) (n : Nat)   (k1 : Int32)   (st : St) (res : (Unit × St))  (hf : fX6_enlarge_s115 n   k1 st = some res) : At p l e (rmK 0) s m args below meth c D G ad (MQV D G ad below args s res) 7 st [(0, .ref (ad 1))] 115 [.int k1, .ref (ad 1)] := by
  obtain ⟨hx, hb, hml, hown, hts, hr, hlk, hK, had, hSt⟩ := id C
  intro H locs ls hl hP hS
  unfold fX6_enlarge_s115 at hf
  refine lv_iconst (v := 0) hx hb dX6_enlarge_115 (by decide) ?_
  exact wX6_enlarge_s116 C n k1 0 st res hf H locs ls (lv_sub hl [0] rfl) hP hS
def fX6_enlarge_s111 (n : Nat)   (k1 : Int32) (st : St) : Option (Unit × St) := fX6_enlarge_s116 n k1 1 st
set_option maxHeartbeats 4000000 in
set_option maxRecDepth 100000 in
theorem wX6_enlarge_s111 (C : Cx p s m args meth c cX6_enlarge 7 wsL_law RX6 none D G ad) (n : Nat)   (k1 : Int32)   (st : St) (res : (Unit × St))  (hf : fX6_enlarge_s111 n   k1 st = some res) : At p l e (rmK 0) s m args below meth c D G ad (MQV D G ad below args s res) 7 st [(0, .ref (ad 1))] 111 [.int k1, .ref (ad 1)] := by
  obtain ⟨hx, hb, hml, hown, hts, hr, hlk, hK, had, hSt⟩ := id C
  intro H locs ls hl hP hS
  unfold fX6_enlarge_s111 at hf
  refine lv_iconst (v := 1) hx hb dX6_enlarge_111 (by decide) ?_
  refine lv_goto (tgt := 116) hx hb dX6_enlarge_112 (by decide) ?_
  exact wX6_enlarge_s116 C n k1 1 st res hf H locs ls (lv_sub hl [0] rfl) hP hS
def fX6_enlarge_s101 (n : Nat)   (v1 : Int32) (st : St) : Option (Unit × St) := if v1 = 3 then fX6_enlarge_s111 n (st.1 1 10) st else fX6_enlarge_s115 n (st.1 1 10) st
set_option maxHeartbeats 4000000 in
set_option maxRecDepth 100000 in
theorem wX6_enlarge_s101 (C : Cx p s m args meth c cX6_enlarge 7 wsL_law RX6 none D G ad) (n : Nat)   (v1 : Int32)   (st : St) (res : (Unit × St))  (hf : fX6_enlarge_s101 n   v1 st = some res) : At p l e (rmK 0) s m args below meth c D G ad (MQV D G ad below args s res) 7 st [(0, .ref (ad 1)), (1, .int v1)] 101 [] := by
  obtain ⟨hx, hb, hml, hown, hts, hr, hlk, hK, had, hSt⟩ := id C
  intro H locs ls hl hP hS
  unfold fX6_enlarge_s101 at hf
  refine lv_aload_n hx hb dX6_enlarge_101 rfl (lv_at hl 0 rfl) ?_
  refine lv_dup hx hb dX6_enlarge_102 rfl ?_
  refine g_getI hx hb hts inlX6 hown hK hP 1 ct_1 rfl 10 (by decide) (hts _ wm_10_6) rfl dX6_enlarge_103 ?_
  refine lv_iload_n hx hb dX6_enlarge_106 rfl (lv_at hl 1 rfl) ?_
  refine lv_iconst (v := 3) hx hb dX6_enlarge_107 (by decide) ?_
  refine lv_icmp_ne (tgt := 115) hx hb dX6_enlarge_108 (by decide) (fun q => ?_) (fun q => ?_)
  · exact wX6_enlarge_s115 C n (st.1 1 10) st res (ie hf q) H locs ls (lv_sub hl [0] rfl) hP hS
  · exact wX6_enlarge_s111 C n (st.1 1 10) st res (it hf q) H locs ls (lv_sub hl [0] rfl) hP hS
def fX6_enlarge_s89 (n : Nat)   (v1 : Int32) (v5 : Int32) (st : St) : Option (Unit × St) := fX6_enlarge_s101 n v1 (setJ st 1 12 ((st.2 1 12) + v5.toInt64))
set_option maxHeartbeats 4000000 in
set_option maxRecDepth 100000 in
theorem wX6_enlarge_s89 (C : Cx p s m args meth c cX6_enlarge 7 wsL_law RX6 none D G ad) (n : Nat)   (v1 : Int32) (v5 : Int32)   (st : St) (res : (Unit × St))  (hf : fX6_enlarge_s89 n   v1 v5 st = some res) : At p l e (rmK 0) s m args below meth c D G ad (MQV D G ad below args s res) 7 st [(0, .ref (ad 1)), (1, .int v1), (5, .int v5)] 89 [] := by
  obtain ⟨hx, hb, hml, hown, hts, hr, hlk, hK, had, hSt⟩ := id C
  intro H locs ls hl hP hS
  unfold fX6_enlarge_s89 at hf
  refine lv_aload_n hx hb dX6_enlarge_89 rfl (lv_at hl 0 rfl) ?_
  refine lv_dup hx hb dX6_enlarge_90 rfl ?_
  refine g_getJ hx hb hts inlX6 hown hK hP 1 ct_1 rfl 12 (by decide) (hts _ wm_10_5) rfl dX6_enlarge_91 ?_
  refine lv_iload hx hb dX6_enlarge_94 (lv_at hl 2 rfl) ?_
  refine lv_i2l hx hb dX6_enlarge_96 rfl ?_
  refine lv_ladd hx hb dX6_enlarge_97 ?_
  refine g_putJ hx hb hts inlX6 tyX6_ok nmX6 hown hK had hP hS 1 ct_1 rfl 12 (by decide) (hts _ wm_10_5) rfl rfl rfl dX6_enlarge_98 (fun H locs hP hS => ?_)
  exact wX6_enlarge_s101 C n v1 (setJ st 1 12 ((st.2 1 12) + v5.toInt64)) res hf H locs ls (lv_sub hl [0, 1] rfl) hP hS
def fX6_enlarge_s81 (n : Nat)   (v1 : Int32) (v5 : Int32) (v6 : Int32) (st : St) : Option (Unit × St) := if inb v6 8 = true then (fX6_enlarge_s89 n v1 v5 (setI st 10 v6.toNatClampNeg (-1))) else none
set_option maxHeartbeats 4000000 in
set_option maxRecDepth 100000 in
theorem wX6_enlarge_s81 (C : Cx p s m args meth c cX6_enlarge 7 wsL_law RX6 none D G ad) (n : Nat)   (v1 : Int32) (v5 : Int32) (v6 : Int32)   (st : St) (res : (Unit × St))  (hf : fX6_enlarge_s81 n   v1 v5 v6 st = some res) : At p l e (rmK 0) s m args below meth c D G ad (MQV D G ad below args s res) 7 st [(0, .ref (ad 1)), (1, .int v1), (5, .int v5), (6, .int v6)] 81 [] := by
  obtain ⟨hx, hb, hml, hown, hts, hr, hlk, hK, had, hSt⟩ := id C
  intro H locs ls hl hP hS
  unfold fX6_enlarge_s81 at hf
  refine lv_aload_n hx hb dX6_enlarge_81 rfl (lv_at hl 0 rfl) ?_
  refine g_getR hx hb hts inlX6 hown hK hP 1 ct_1 rfl 8 (by decide) (hts _ wm_3_23) rfl dX6_enlarge_82 ?_
  refine lv_iload hx hb dX6_enlarge_85 (lv_at hl 3 rfl) ?_
  refine lv_iconst (v := (-1)) hx hb dX6_enlarge_87 (by decide) ?_
  obtain ⟨g1, hf⟩ := gd hf
  refine g_iast hx hb hK had hP hS 10 ct_10 g1 dX6_enlarge_88 (fun H locs hP hS => ?_)
  exact wX6_enlarge_s89 C n v1 v5 (setI st 10 v6.toNatClampNeg (-1)) res hf H locs ls (lv_sub hl [0, 1, 2] rfl) hP hS
def fX6_enlarge_s73 (n : Nat)   (v1 : Int32) (v5 : Int32) (v6 : Int32) (st : St) : Option (Unit × St) := if inb v6 8 = true then (fX6_enlarge_s81 n v1 v5 v6 (setI st 9 v6.toNatClampNeg 1)) else none
set_option maxHeartbeats 4000000 in
set_option maxRecDepth 100000 in
theorem wX6_enlarge_s73 (C : Cx p s m args meth c cX6_enlarge 7 wsL_law RX6 none D G ad) (n : Nat)   (v1 : Int32) (v5 : Int32) (v6 : Int32)   (st : St) (res : (Unit × St))  (hf : fX6_enlarge_s73 n   v1 v5 v6 st = some res) : At p l e (rmK 0) s m args below meth c D G ad (MQV D G ad below args s res) 7 st [(0, .ref (ad 1)), (1, .int v1), (5, .int v5), (6, .int v6)] 73 [] := by
  obtain ⟨hx, hb, hml, hown, hts, hr, hlk, hK, had, hSt⟩ := id C
  intro H locs ls hl hP hS
  unfold fX6_enlarge_s73 at hf
  refine lv_aload_n hx hb dX6_enlarge_73 rfl (lv_at hl 0 rfl) ?_
  refine g_getR hx hb hts inlX6 hown hK hP 1 ct_1 rfl 7 (by decide) (hts _ wm_3_22) rfl dX6_enlarge_74 ?_
  refine lv_iload hx hb dX6_enlarge_77 (lv_at hl 3 rfl) ?_
  refine lv_iconst (v := 1) hx hb dX6_enlarge_79 (by decide) ?_
  obtain ⟨g1, hf⟩ := gd hf
  refine g_iast hx hb hK had hP hS 9 ct_9 g1 dX6_enlarge_80 (fun H locs hP hS => ?_)
  exact wX6_enlarge_s81 C n v1 v5 v6 (setI st 9 v6.toNatClampNeg 1) res hf H locs ls (lv_sub hl [0, 1, 2, 3] rfl) hP hS
def fX6_enlarge_s65 (n : Nat)   (v1 : Int32) (v5 : Int32) (v6 : Int32) (st : St) : Option (Unit × St) := if inb v6 8 = true then (fX6_enlarge_s73 n v1 v5 v6 (setI st 8 v6.toNatClampNeg 1)) else none
set_option maxHeartbeats 4000000 in
set_option maxRecDepth 100000 in
theorem wX6_enlarge_s65 (C : Cx p s m args meth c cX6_enlarge 7 wsL_law RX6 none D G ad) (n : Nat)   (v1 : Int32) (v5 : Int32) (v6 : Int32)   (st : St) (res : (Unit × St))  (hf : fX6_enlarge_s65 n   v1 v5 v6 st = some res) : At p l e (rmK 0) s m args below meth c D G ad (MQV D G ad below args s res) 7 st [(0, .ref (ad 1)), (1, .int v1), (5, .int v5), (6, .int v6)] 65 [] := by
  obtain ⟨hx, hb, hml, hown, hts, hr, hlk, hK, had, hSt⟩ := id C
  intro H locs ls hl hP hS
  unfold fX6_enlarge_s65 at hf
  refine lv_aload_n hx hb dX6_enlarge_65 rfl (lv_at hl 0 rfl) ?_
  refine g_getR hx hb hts inlX6 hown hK hP 1 ct_1 rfl 6 (by decide) (hts _ wm_3_21) rfl dX6_enlarge_66 ?_
  refine lv_iload hx hb dX6_enlarge_69 (lv_at hl 3 rfl) ?_
  refine lv_iconst (v := 1) hx hb dX6_enlarge_71 (by decide) ?_
  obtain ⟨g1, hf⟩ := gd hf
  refine g_iast hx hb hK had hP hS 8 ct_8 g1 dX6_enlarge_72 (fun H locs hP hS => ?_)
  exact wX6_enlarge_s73 C n v1 v5 v6 (setI st 8 v6.toNatClampNeg 1) res hf H locs ls (lv_sub hl [0, 1, 2, 3] rfl) hP hS
def fX6_enlarge_s55 (n : Nat)   (v1 : Int32) (v5 : Int32) (v6 : Int32) (st : St) : Option (Unit × St) := if inb v6 8 = true then (fX6_enlarge_s65 n v1 v5 v6 (setI st 7 v6.toNatClampNeg 9999)) else none
set_option maxHeartbeats 4000000 in
set_option maxRecDepth 100000 in
theorem wX6_enlarge_s55 (C : Cx p s m args meth c cX6_enlarge 7 wsL_law RX6 none D G ad) (n : Nat)   (v1 : Int32) (v5 : Int32) (v6 : Int32)   (st : St) (res : (Unit × St))  (hf : fX6_enlarge_s55 n   v1 v5 v6 st = some res) : At p l e (rmK 0) s m args below meth c D G ad (MQV D G ad below args s res) 7 st [(0, .ref (ad 1)), (1, .int v1), (5, .int v5), (6, .int v6)] 55 [] := by
  obtain ⟨hx, hb, hml, hown, hts, hr, hlk, hK, had, hSt⟩ := id C
  intro H locs ls hl hP hS
  unfold fX6_enlarge_s55 at hf
  refine lv_aload_n hx hb dX6_enlarge_55 rfl (lv_at hl 0 rfl) ?_
  refine g_getR hx hb hts inlX6 hown hK hP 1 ct_1 rfl 5 (by decide) (hts _ wm_3_20) rfl dX6_enlarge_56 ?_
  refine lv_iload hx hb dX6_enlarge_59 (lv_at hl 3 rfl) ?_
  refine lv_sipush (v := 9999) hx hb dX6_enlarge_61 (by decide) ?_
  obtain ⟨g1, hf⟩ := gd hf
  refine g_iast hx hb hK had hP hS 7 ct_7 g1 dX6_enlarge_64 (fun H locs hP hS => ?_)
  exact wX6_enlarge_s65 C n v1 v5 v6 (setI st 7 v6.toNatClampNeg 9999) res hf H locs ls (lv_sub hl [0, 1, 2, 3] rfl) hP hS
def fX6_enlarge_s47 (n : Nat)   (v1 : Int32) (v5 : Int32) (v6 : Int32) (st : St) : Option (Unit × St) := if inb v6 8 = true then (fX6_enlarge_s55 n v1 v5 v6 (setI st 6 v6.toNatClampNeg 1)) else none
set_option maxHeartbeats 4000000 in
set_option maxRecDepth 100000 in
theorem wX6_enlarge_s47 (C : Cx p s m args meth c cX6_enlarge 7 wsL_law RX6 none D G ad) (n : Nat)   (v1 : Int32) (v5 : Int32) (v6 : Int32)   (st : St) (res : (Unit × St))  (hf : fX6_enlarge_s47 n   v1 v5 v6 st = some res) : At p l e (rmK 0) s m args below meth c D G ad (MQV D G ad below args s res) 7 st [(0, .ref (ad 1)), (1, .int v1), (5, .int v5), (6, .int v6)] 47 [] := by
  obtain ⟨hx, hb, hml, hown, hts, hr, hlk, hK, had, hSt⟩ := id C
  intro H locs ls hl hP hS
  unfold fX6_enlarge_s47 at hf
  refine lv_aload_n hx hb dX6_enlarge_47 rfl (lv_at hl 0 rfl) ?_
  refine g_getR hx hb hts inlX6 hown hK hP 1 ct_1 rfl 4 (by decide) (hts _ wm_3_19) rfl dX6_enlarge_48 ?_
  refine lv_iload hx hb dX6_enlarge_51 (lv_at hl 3 rfl) ?_
  refine lv_iconst (v := 1) hx hb dX6_enlarge_53 (by decide) ?_
  obtain ⟨g1, hf⟩ := gd hf
  refine g_iast hx hb hK had hP hS 6 ct_6 g1 dX6_enlarge_54 (fun H locs hP hS => ?_)
  exact wX6_enlarge_s55 C n v1 v5 v6 (setI st 6 v6.toNatClampNeg 1) res hf H locs ls (lv_sub hl [0, 1, 2, 3] rfl) hP hS
def fX6_enlarge_s38 (n : Nat)   (v1 : Int32) (v4 : Int32) (v5 : Int32) (v6 : Int32) (st : St) : Option (Unit × St) := if inb v6 8 = true then (fX6_enlarge_s47 n v1 v5 v6 (setI st 5 v6.toNatClampNeg v4)) else none
set_option maxHeartbeats 4000000 in
set_option maxRecDepth 100000 in
theorem wX6_enlarge_s38 (C : Cx p s m args meth c cX6_enlarge 7 wsL_law RX6 none D G ad) (n : Nat)   (v1 : Int32) (v4 : Int32) (v5 : Int32) (v6 : Int32)   (st : St) (res : (Unit × St))  (hf : fX6_enlarge_s38 n   v1 v4 v5 v6 st = some res) : At p l e (rmK 0) s m args below meth c D G ad (MQV D G ad below args s res) 7 st [(0, .ref (ad 1)), (1, .int v1), (4, .int v4), (5, .int v5), (6, .int v6)] 38 [] := by
  obtain ⟨hx, hb, hml, hown, hts, hr, hlk, hK, had, hSt⟩ := id C
  intro H locs ls hl hP hS
  unfold fX6_enlarge_s38 at hf
  refine lv_aload_n hx hb dX6_enlarge_38 rfl (lv_at hl 0 rfl) ?_
  refine g_getR hx hb hts inlX6 hown hK hP 1 ct_1 rfl 3 (by decide) (hts _ wm_3_18) rfl dX6_enlarge_39 ?_
  refine lv_iload hx hb dX6_enlarge_42 (lv_at hl 4 rfl) ?_
  refine lv_iload hx hb dX6_enlarge_44 (lv_at hl 2 rfl) ?_
  obtain ⟨g1, hf⟩ := gd hf
  refine g_iast hx hb hK had hP hS 5 ct_5 g1 dX6_enlarge_46 (fun H locs hP hS => ?_)
  exact wX6_enlarge_s47 C n v1 v5 v6 (setI st 5 v6.toNatClampNeg v4) res hf H locs ls (lv_sub hl [0, 1, 3, 4] rfl) hP hS
def fX6_enlarge_s30 (n : Nat)   (v1 : Int32) (v3 : Int32) (v4 : Int32) (v5 : Int32) (v6 : Int32) (st : St) : Option (Unit × St) := if inb v6 8 = true then (fX6_enlarge_s38 n v1 v4 v5 v6 (setI st 4 v6.toNatClampNeg v3)) else none
set_option maxHeartbeats 4000000 in
set_option maxRecDepth 100000 in
theorem wX6_enlarge_s30 (C : Cx p s m args meth c cX6_enlarge 7 wsL_law RX6 none D G ad) (n : Nat)   (v1 : Int32) (v3 : Int32) (v4 : Int32) (v5 : Int32) (v6 : Int32)   (st : St) (res : (Unit × St))  (hf : fX6_enlarge_s30 n   v1 v3 v4 v5 v6 st = some res) : At p l e (rmK 0) s m args below meth c D G ad (MQV D G ad below args s res) 7 st [(0, .ref (ad 1)), (1, .int v1), (3, .int v3), (4, .int v4), (5, .int v5), (6, .int v6)] 30 [] := by
  obtain ⟨hx, hb, hml, hown, hts, hr, hlk, hK, had, hSt⟩ := id C
  intro H locs ls hl hP hS
  unfold fX6_enlarge_s30 at hf
  refine lv_aload_n hx hb dX6_enlarge_30 rfl (lv_at hl 0 rfl) ?_
  refine g_getR hx hb hts inlX6 hown hK hP 1 ct_1 rfl 2 (by decide) (hts _ wm_3_17) rfl dX6_enlarge_31 ?_
  refine lv_iload hx hb dX6_enlarge_34 (lv_at hl 5 rfl) ?_
  refine lv_iload_n hx hb dX6_enlarge_36 rfl (lv_at hl 2 rfl) ?_
  obtain ⟨g1, hf⟩ := gd hf
  refine g_iast hx hb hK had hP hS 4 ct_4 g1 dX6_enlarge_37 (fun H locs hP hS => ?_)
  exact wX6_enlarge_s38 C n v1 v4 v5 v6 (setI st 4 v6.toNatClampNeg v3) res hf H locs ls (lv_sub hl [0, 1, 3, 4, 5] rfl) hP hS
def fX6_enlarge_s22 (n : Nat)   (v1 : Int32) (v2 : Int32) (v3 : Int32) (v4 : Int32) (v5 : Int32) (v6 : Int32) (st : St) : Option (Unit × St) := if inb v6 8 = true then (fX6_enlarge_s30 n v1 v3 v4 v5 v6 (setI st 3 v6.toNatClampNeg v2)) else none
set_option maxHeartbeats 4000000 in
set_option maxRecDepth 100000 in
theorem wX6_enlarge_s22 (C : Cx p s m args meth c cX6_enlarge 7 wsL_law RX6 none D G ad) (n : Nat)   (v1 : Int32) (v2 : Int32) (v3 : Int32) (v4 : Int32) (v5 : Int32) (v6 : Int32)   (st : St) (res : (Unit × St))  (hf : fX6_enlarge_s22 n   v1 v2 v3 v4 v5 v6 st = some res) : At p l e (rmK 0) s m args below meth c D G ad (MQV D G ad below args s res) 7 st [(0, .ref (ad 1)), (1, .int v1), (2, .int v2), (3, .int v3), (4, .int v4), (5, .int v5), (6, .int v6)] 22 [] := by
  obtain ⟨hx, hb, hml, hown, hts, hr, hlk, hK, had, hSt⟩ := id C
  intro H locs ls hl hP hS
  unfold fX6_enlarge_s22 at hf
  refine lv_aload_n hx hb dX6_enlarge_22 rfl (lv_at hl 0 rfl) ?_
  refine g_getR hx hb hts inlX6 hown hK hP 1 ct_1 rfl 1 (by decide) (hts _ wm_3_16) rfl dX6_enlarge_23 ?_
  refine lv_iload hx hb dX6_enlarge_26 (lv_at hl 6 rfl) ?_
  refine lv_iload_n hx hb dX6_enlarge_28 rfl (lv_at hl 2 rfl) ?_
  obtain ⟨g1, hf⟩ := gd hf
  refine g_iast hx hb hK had hP hS 3 ct_3 g1 dX6_enlarge_29 (fun H locs hP hS => ?_)
  exact wX6_enlarge_s30 C n v1 v3 v4 v5 v6 (setI st 3 v6.toNatClampNeg v2) res hf H locs ls (lv_sub hl [0, 1, 3, 4, 5, 6] rfl) hP hS
def fX6_enlarge_s14 (n : Nat)   (v1 : Int32) (v2 : Int32) (v3 : Int32) (v4 : Int32) (v5 : Int32) (v6 : Int32) (st : St) : Option (Unit × St) := if inb v6 8 = true then (fX6_enlarge_s22 n v1 v2 v3 v4 v5 v6 (setI st 2 v6.toNatClampNeg v1)) else none
set_option maxHeartbeats 4000000 in
set_option maxRecDepth 100000 in
theorem wX6_enlarge_s14 (C : Cx p s m args meth c cX6_enlarge 7 wsL_law RX6 none D G ad) (n : Nat)   (v1 : Int32) (v2 : Int32) (v3 : Int32) (v4 : Int32) (v5 : Int32) (v6 : Int32)   (st : St) (res : (Unit × St))  (hf : fX6_enlarge_s14 n   v1 v2 v3 v4 v5 v6 st = some res) : At p l e (rmK 0) s m args below meth c D G ad (MQV D G ad below args s res) 7 st [(0, .ref (ad 1)), (1, .int v1), (2, .int v2), (3, .int v3), (4, .int v4), (5, .int v5), (6, .int v6)] 14 [] := by
  obtain ⟨hx, hb, hml, hown, hts, hr, hlk, hK, had, hSt⟩ := id C
  intro H locs ls hl hP hS
  unfold fX6_enlarge_s14 at hf
  refine lv_aload_n hx hb dX6_enlarge_14 rfl (lv_at hl 0 rfl) ?_
  refine g_getR hx hb hts inlX6 hown hK hP 1 ct_1 rfl 0 (by decide) (hts _ wm_3_15) rfl dX6_enlarge_15 ?_
  refine lv_iload hx hb dX6_enlarge_18 (lv_at hl 6 rfl) ?_
  refine lv_iload_n hx hb dX6_enlarge_20 rfl (lv_at hl 1 rfl) ?_
  obtain ⟨g1, hf⟩ := gd hf
  refine g_iast hx hb hK had hP hS 2 ct_2 g1 dX6_enlarge_21 (fun H locs hP hS => ?_)
  exact wX6_enlarge_s22 C n v1 v2 v3 v4 v5 v6 (setI st 2 v6.toNatClampNeg v1) res hf H locs ls (lv_sub hl [0, 1, 2, 3, 4, 5, 6] rfl) hP hS
def fX6_enlarge_s13 (n : Nat)    (st : St) : Option (Unit × St) := some ((), st)
set_option maxHeartbeats 4000000 in
set_option maxRecDepth 100000 in
theorem wX6_enlarge_s13 (C : Cx p s m args meth c cX6_enlarge 7 wsL_law RX6 none D G ad) (n : Nat)      (st : St) (res : (Unit × St))  (hf : fX6_enlarge_s13 n    st = some res) : At p l e (rmK 0) s m args below meth c D G ad (MQV D G ad below args s res) 7 st [] 13 [] := by
  obtain ⟨hx, hb, hml, hown, hts, hr, hlk, hK, had, hSt⟩ := id C
  intro H locs ls hl hP hS
  unfold fX6_enlarge_s13 at hf
  exact g_vret hx hb hr hlk hP hS dX6_enlarge_13 hf
def fX6_enlarge_s0 (n : Nat)   (v1 : Int32) (v2 : Int32) (v3 : Int32) (v4 : Int32) (v5 : Int32) (st : St) : Option (Unit × St) := if (st.1 1 9) < 8 then fX6_enlarge_s14 n v1 v2 v3 v4 v5 (st.1 1 9) st else fX6_enlarge_s13 n st
set_option maxHeartbeats 4000000 in
set_option maxRecDepth 100000 in
theorem wX6_enlarge_s0 (C : Cx p s m args meth c cX6_enlarge 7 wsL_law RX6 none D G ad) (n : Nat)   (v1 : Int32) (v2 : Int32) (v3 : Int32) (v4 : Int32) (v5 : Int32)   (st : St) (res : (Unit × St))  (hf : fX6_enlarge_s0 n   v1 v2 v3 v4 v5 st = some res) : At p l e (rmK 0) s m args below meth c D G ad (MQV D G ad below args s res) 7 st [(0, .ref (ad 1)), (1, .int v1), (2, .int v2), (3, .int v3), (4, .int v4), (5, .int v5)] 0 [] := by
  obtain ⟨hx, hb, hml, hown, hts, hr, hlk, hK, had, hSt⟩ := id C
  intro H locs ls hl hP hS
  unfold fX6_enlarge_s0 at hf
  refine lv_aload_n hx hb dX6_enlarge_0 rfl (lv_at hl 0 rfl) ?_
  refine g_getI hx hb hts inlX6 hown hK hP 1 ct_1 rfl 9 (by decide) (hts _ wm_9_16) rfl dX6_enlarge_1 ?_
  refine lv_istore (lv' := [(6, .int (st.1 1 9)), (0, .ref (ad 1)), (1, .int v1), (2, .int v2), (3, .int v3), (4, .int v4), (5, .int v5)]) hx hb dX6_enlarge_4 hl (by decide) rfl (fun ls hl => ?_)
  refine lv_iload hx hb dX6_enlarge_6 (lv_at hl 0 rfl) ?_
  refine lv_bipush (v := 8) hx hb dX6_enlarge_8 (by decide) ?_
  refine lv_icmp_lt (tgt := 14) hx hb dX6_enlarge_10 (by decide) (fun q => ?_) (fun q => ?_)
  · exact wX6_enlarge_s14 C n v1 v2 v3 v4 v5 (st.1 1 9) st res (it hf q) H locs ls (lv_sub hl [1, 2, 3, 4, 5, 6, 0] rfl) hP hS
  · exact wX6_enlarge_s13 C n st res (ie hf q) H locs ls (lv_sub hl [] rfl) hP hS
def fX6_enlarge (n : Nat)  (a1 : Int32) (a2 : Int32) (a3 : Int32) (a4 : Int32) (a5 : Int32) (st : St) : Option (Unit × St) := fX6_enlarge_s0 n a1 a2 a3 a4 a5 st
theorem okX6_enlarge : okY yX6_enlarge RX6 5 := by unfold okY; decide +kernel
end
set_option maxRecDepth 100000 in
theorem kX6_enlarge (l : Launch) (D : va_G) (G : G3) (ad : Nat → Nat) (had : Adr ad) (n : Nat)   (a1 : Int32) (a2 : Int32) (a3 : Int32) (a4 : Int32) (a5 : Int32) (st : St) (res : (Unit × St)) (hf : fX6_enlarge n  a1 a2 a3 a4 a5 st = some res) {sz : Nat} : CtV l yX6_enlarge (wsU yX6_enlarge cX6_enlarge 7 none) (rmK 0) D G ad sz [.ref (ad 1), .int a1, .int a2, .int a3, .int a4, .int a5] st res := by
  refine Met.ofW (cc := cX6_enlarge) (maxL := 7) (ret := none) (by decide) rfl ?_
  intro p e s m args below meth c s₁ B hml hv
  obtain ⟨rfl, hsz, hP, hK, hSt⟩ := hv
  have hts := atoms_spec (ws := wsU yX6_enlarge cX6_enlarge 7 none) B.pre
  have C : Cx p s m _ meth c cX6_enlarge 7 wsL_law RX6 none D G ad := ⟨B.exec, B.bytes, hml, findClass_of_methodNamed B.named, fun w h => hts w (List.mem_cons_of_mem _ h), B.returns, B.notSynchronized, hK, had, hSt⟩
  subst hsz
  have hl := lv_entry ([.ref (ad 1), .int a1, .int a2, .int a3, .int a4, .int a5]) (n := 7) (Nat.le_of_ble_eq_true rfl)
  rw [lg_entry_eq]
  generalize (lg_sl ([.ref (ad 1), .int a1, .int a2, .int a3, .int a4, .int a5]) ++ List.replicate (7 - (lg_sl ([.ref (ad 1), .int a1, .int a2, .int a3, .int a4, .int a5])).length) Slot.unset).toArray = ls at hl ⊢
  exact wX6_enlarge_s0 C n  a1 a2 a3 a4 a5   st res hf s.heap [] ls (lv_sub hl [0, 1, 2, 3, 4, 5] rfl) hP va_S.rf
section
variable {p : Program} {l : Launch} {e : Env} {s : State} {m : MethodId} {args : Array Value} {below : List Frame} {meth : Method} {c : Code} {D : va_G} {G : G3} {ad : Nat → Nat}
def fX1_latest_s25 (n : Nat)  (b : Nat) (b1 : Nat) (k0 : Int32) (st : St) : Option (Int32 × St) := some (k0, st)
set_option maxHeartbeats 4000000 in
set_option maxRecDepth 100000 in
theorem wX1_latest_s25 (C : Cx p s m args meth c cX1_latest 3 wsL_law RX1 (some .int) D G ad) (n : Nat)  (b : Nat) (b1 : Nat) (k0 : Int32) (ib : isFl b) (ib1 : ctab[b1]? = some (.inr (32, 0)))  (st : St) (res : (Int32 × St))  (hf : fX1_latest_s25 n  b b1 k0 st = some res) : At p l e (rmK 0) s m args below meth c D G ad (MQI D G ad below args s res) 3 st [] 25 [.int k0] := by
  obtain ⟨hx, hb, hml, hown, hts, hr, hlk, hK, had, hSt⟩ := id C
  intro H locs ls hl hP hS
  unfold fX1_latest_s25 at hf
  exact g_iret hx hb hr hlk hP hS dX1_latest_25 hf
def fX1_latest_s11 (n : Nat)  (b : Nat) (b1 : Nat) (v2 : Int32) (st : St) : Option (Int32 × St) := if inb ((v2 * 4) + (((st.1 b 10) - 1) - ((st.1 b 10) - 1) / 4 * 4)) 32 = true then (fX1_latest_s25 n b b1 (st.1 b1 ((v2 * 4) + (((st.1 b 10) - 1) - ((st.1 b 10) - 1) / 4 * 4)).toNatClampNeg) st) else none
set_option maxHeartbeats 4000000 in
set_option maxRecDepth 100000 in
theorem wX1_latest_s11 (C : Cx p s m args meth c cX1_latest 3 wsL_law RX1 (some .int) D G ad) (n : Nat)  (b : Nat) (b1 : Nat) (v2 : Int32) (ib : isFl b) (ib1 : ctab[b1]? = some (.inr (32, 0)))  (st : St) (res : (Int32 × St))  (hf : fX1_latest_s11 n  b b1 v2 st = some res) : At p l e (rmK 0) s m args below meth c D G ad (MQI D G ad below args s res) 3 st [(0, .ref (ad b)), (1, .ref (ad b1)), (2, .int v2)] 11 [] := by
  obtain ⟨hx, hb, hml, hown, hts, hr, hlk, hK, had, hSt⟩ := id C
  intro H locs ls hl hP hS
  unfold fX1_latest_s11 at hf
  refine lv_aload_n hx hb dX1_latest_11 rfl (lv_at hl 1 rfl) ?_
  refine lv_iload_n hx hb dX1_latest_12 rfl (lv_at hl 2 rfl) ?_
  refine lv_iconst (v := 4) hx hb dX1_latest_13 (by decide) ?_
  refine lv_imul hx hb dX1_latest_14 ?_
  refine lv_aload_n hx hb dX1_latest_15 rfl (lv_at hl 0 rfl) ?_
  refine g_getI hx hb hts inlX1 hown hK hP b (fl_0 ib) rfl 10 (by decide) (hts _ wm_13_12) rfl dX1_latest_16 ?_
  refine lv_iconst (v := 1) hx hb dX1_latest_19 (by decide) ?_
  refine lv_isub hx hb dX1_latest_20 ?_
  refine lv_iconst (v := 4) hx hb dX1_latest_21 (by decide) ?_
  refine lv_irem hx hb dX1_latest_22 (by decide) ?_
  refine lv_iadd hx hb dX1_latest_23 ?_
  obtain ⟨g1, hf⟩ := gd hf
  refine g_iald hx hb hK hP b1 ib1 g1 dX1_latest_24 ?_
  exact wX1_latest_s25 C n b b1 (st.1 b1 ((v2 * 4) + (((st.1 b 10) - 1) - ((st.1 b 10) - 1) / 4 * 4)).toNatClampNeg) ib ib1 st res hf H locs ls (lv_sub hl [] rfl) hP hS
def fX1_latest_s7 (n : Nat)  (b : Nat) (b1 : Nat)  (st : St) : Option (Int32 × St) := fX1_latest_s25 n b b1 0 st
set_option maxHeartbeats 4000000 in
set_option maxRecDepth 100000 in
theorem wX1_latest_s7 (C : Cx p s m args meth c cX1_latest 3 wsL_law RX1 (some .int) D G ad) (n : Nat)  (b : Nat) (b1 : Nat)  (ib : isFl b) (ib1 : ctab[b1]? = some (.inr (32, 0)))  (st : St) (res : (Int32 × St))  (hf : fX1_latest_s7 n  b b1  st = some res) : At p l e (rmK 0) s m args below meth c D G ad (MQI D G ad below args s res) 3 st [] 7 [] := by
  obtain ⟨hx, hb, hml, hown, hts, hr, hlk, hK, had, hSt⟩ := id C
  intro H locs ls hl hP hS
  unfold fX1_latest_s7 at hf
  refine lv_iconst (v := 0) hx hb dX1_latest_7 (by decide) ?_
  refine lv_goto (tgt := 25) hx hb dX1_latest_8 (by decide) ?_
  exact wX1_latest_s25 C n b b1 0 ib ib1 st res hf H locs ls (lv_sub hl [] rfl) hP hS
def fX1_latest_s0 (n : Nat)  (b : Nat) (b1 : Nat) (v2 : Int32) (st : St) : Option (Int32 × St) := if (st.1 b 10) = 0 then fX1_latest_s7 n b b1 st else fX1_latest_s11 n b b1 v2 st
set_option maxHeartbeats 4000000 in
set_option maxRecDepth 100000 in
theorem wX1_latest_s0 (C : Cx p s m args meth c cX1_latest 3 wsL_law RX1 (some .int) D G ad) (n : Nat)  (b : Nat) (b1 : Nat) (v2 : Int32) (ib : isFl b) (ib1 : ctab[b1]? = some (.inr (32, 0)))  (st : St) (res : (Int32 × St))  (hf : fX1_latest_s0 n  b b1 v2 st = some res) : At p l e (rmK 0) s m args below meth c D G ad (MQI D G ad below args s res) 3 st [(0, .ref (ad b)), (1, .ref (ad b1)), (2, .int v2)] 0 [] := by
  obtain ⟨hx, hb, hml, hown, hts, hr, hlk, hK, had, hSt⟩ := id C
  intro H locs ls hl hP hS
  unfold fX1_latest_s0 at hf
  refine lv_aload_n hx hb dX1_latest_0 rfl (lv_at hl 0 rfl) ?_
  refine g_getI hx hb hts inlX1 hown hK hP b (fl_0 ib) rfl 10 (by decide) (hts _ wm_13_12) rfl dX1_latest_1 ?_
  refine lv_if_ne (tgt := 11) hx hb dX1_latest_4 (by decide) (fun q => ?_) (fun q => ?_)
  · exact wX1_latest_s11 C n b b1 v2 ib ib1 st res (ie hf q) H locs ls (lv_sub hl [0, 1, 2] rfl) hP hS
  · exact wX1_latest_s7 C n b b1 ib ib1 st res (it hf q) H locs ls (lv_sub hl [] rfl) hP hS
def fX1_latest (n : Nat) (b : Nat) (b1 : Nat) (a2 : Int32) (st : St) : Option (Int32 × St) := fX1_latest_s0 n b b1 a2 st
theorem okX1_latest : okY yX1_latest RX1 2 := by unfold okY; decide +kernel
end
set_option maxRecDepth 100000 in
theorem kX1_latest (l : Launch) (D : va_G) (G : G3) (ad : Nat → Nat) (had : Adr ad) (n : Nat) (b : Nat) (b1 : Nat) (ib : isFl b) (ib1 : ctab[b1]? = some (.inr (32, 0))) (a2 : Int32) (st : St) (res : (Int32 × St)) (hf : fX1_latest n b b1 a2 st = some res) {sz : Nat} : CtI l yX1_latest (wsU yX1_latest cX1_latest 3 (some .int)) (rmK 0) D G ad sz [.ref (ad b), .ref (ad b1), .int a2] st res := by
  refine Met.ofW (cc := cX1_latest) (maxL := 3) (ret := (some .int)) (by decide) rfl ?_
  intro p e s m args below meth c s₁ B hml hv
  obtain ⟨rfl, hsz, hP, hK, hSt⟩ := hv
  have hts := atoms_spec (ws := wsU yX1_latest cX1_latest 3 (some .int)) B.pre
  have C : Cx p s m _ meth c cX1_latest 3 wsL_law RX1 (some .int) D G ad := ⟨B.exec, B.bytes, hml, findClass_of_methodNamed B.named, fun w h => hts w (List.mem_cons_of_mem _ h), B.returns, B.notSynchronized, hK, had, hSt⟩
  subst hsz
  have hl := lv_entry ([.ref (ad b), .ref (ad b1), .int a2]) (n := 3) (Nat.le_of_ble_eq_true rfl)
  rw [lg_entry_eq]
  generalize (lg_sl ([.ref (ad b), .ref (ad b1), .int a2]) ++ List.replicate (3 - (lg_sl ([.ref (ad b), .ref (ad b1), .int a2])).length) Slot.unset).toArray = ls at hl ⊢
  exact wX1_latest_s0 C n b b1 a2 ib ib1  st res hf s.heap [] ls (lv_sub hl [0, 1, 2] rfl) hP va_S.rf
section
variable {p : Program} {l : Launch} {e : Env} {s : State} {m : MethodId} {args : Array Value} {below : List Frame} {meth : Method} {c : Code} {D : va_G} {G : G3} {ad : Nat → Nat}
def fX5_note_s73 (n : Nat)    (st : St) : Option (Unit × St) := some ((), st)
set_option maxHeartbeats 4000000 in
set_option maxRecDepth 100000 in
theorem wX5_note_s73 (C : Cx p s m args meth c cX5_note 5 wsL_law RX5 none D G ad) (n : Nat)      (st : St) (res : (Unit × St))  (hf : fX5_note_s73 n    st = some res) : At p l e (rmK 1) s m args below meth c D G ad (MQV D G ad below args s res) 5 st [] 73 [] := by
  obtain ⟨hx, hb, hml, hown, hts, hr, hlk, hK, had, hSt⟩ := id C
  intro H locs ls hl hP hS
  unfold fX5_note_s73 at hf
  exact g_vret hx hb hr hlk hP hS dX5_note_73 hf
def fX5_note_s67 (n : Nat) (K17 : Int32 → Int32 → Int32 → St → Option (Unit × St))  (v2 : Int32) (v3 : Int32) (v4 : Int32) (st : St) : Option (Unit × St) := K17 v2 v3 (v4 + 1) st
set_option maxHeartbeats 4000000 in
set_option maxRecDepth 100000 in
theorem wX5_note_s67 (C : Cx p s m args meth c cX5_note 5 wsL_law RX5 none D G ad) (n : Nat) (K17 : Int32 → Int32 → Int32 → St → Option (Unit × St))  (v2 : Int32) (v3 : Int32) (v4 : Int32)   (st : St) (res : (Unit × St)) (hK17 : ∀ (v2 : Int32) (v3 : Int32) (v4 : Int32) (st : St), K17 v2 v3 v4 st = some res → At p l e (rmK 1) s m args below meth c D G ad (MQV D G ad below args s res) 5 st [(0, .ref (ad 21)), (1, .ref (ad 53)), (2, .int v2), (3, .int v3), (4, .int v4)] 17 []) (hf : fX5_note_s67 n K17  v2 v3 v4 st = some res) : At p l e (rmK 1) s m args below meth c D G ad (MQV D G ad below args s res) 5 st [(0, .ref (ad 21)), (1, .ref (ad 53)), (2, .int v2), (3, .int v3), (4, .int v4)] 67 [] := by
  obtain ⟨hx, hb, hml, hown, hts, hr, hlk, hK, had, hSt⟩ := id C
  intro H locs ls hl hP hS
  unfold fX5_note_s67 at hf
  refine lv_iinc (v := v4 + 1) (lv' := [(4, .int (v4 + 1)), (0, .ref (ad 21)), (1, .ref (ad 53)), (2, .int v2), (3, .int v3)]) hx hb dX5_note_67 hl (k := 4) rfl rfl (by decide) rfl (fun ls hl => ?_)
  refine lv_goto (tgt := 17) hx hb dX5_note_70 (by decide) ?_
  exact hK17 v2 v3 (v4 + 1)  st hf H locs ls (lv_sub hl [1, 2, 3, 4, 0] rfl) hP hS
def fX5_note_s66 (n : Nat) (K17 : Int32 → Int32 → Int32 → St → Option (Unit × St))  (v2 : Int32) (v3 : Int32) (v4 : Int32) (k1 : Int32) (k2 : Int32) (st : St) : Option (Unit × St) := if inb k1 320 = true then (fX5_note_s67 n K17 v2 v3 v4 (setI st 23 k1.toNatClampNeg k2)) else none
set_option maxHeartbeats 4000000 in
set_option maxRecDepth 100000 in
theorem wX5_note_s66 (C : Cx p s m args meth c cX5_note 5 wsL_law RX5 none D G ad) (n : Nat) (K17 : Int32 → Int32 → Int32 → St → Option (Unit × St))  (v2 : Int32) (v3 : Int32) (v4 : Int32) (k1 : Int32) (k2 : Int32)   (st : St) (res : (Unit × St)) (hK17 : ∀ (v2 : Int32) (v3 : Int32) (v4 : Int32) (st : St), K17 v2 v3 v4 st = some res → At p l e (rmK 1) s m args below meth c D G ad (MQV D G ad below args s res) 5 st [(0, .ref (ad 21)), (1, .ref (ad 53)), (2, .int v2), (3, .int v3), (4, .int v4)] 17 []) (hf : fX5_note_s66 n K17  v2 v3 v4 k1 k2 st = some res) : At p l e (rmK 1) s m args below meth c D G ad (MQV D G ad below args s res) 5 st [(0, .ref (ad 21)), (1, .ref (ad 53)), (2, .int v2), (3, .int v3), (4, .int v4)] 66 [.int k2, .int k1, .ref (ad 23)] := by
  obtain ⟨hx, hb, hml, hown, hts, hr, hlk, hK, had, hSt⟩ := id C
  intro H locs ls hl hP hS
  unfold fX5_note_s66 at hf
  obtain ⟨g1, hf⟩ := gd hf
  refine g_iast hx hb hK had hP hS 23 ct_23 g1 dX5_note_66 (fun H locs hP hS => ?_)
  exact wX5_note_s67 C n K17 v2 v3 v4 (setI st 23 k1.toNatClampNeg k2) res hK17 hf H locs ls (lv_sub hl [0, 1, 2, 3, 4] rfl) hP hS
def fX5_note_s45 (n : Nat) (K17 : Int32 → Int32 → Int32 → St → Option (Unit × St))  (v2 : Int32) (v3 : Int32) (v4 : Int32) (st : St) : Option (Unit × St) := (fX1_latest n 53 62 v4 st).bind (fun q => fX5_note_s66 n K17 v2 v3 v4 ((v4 * 40) + v3) q.1 q.2)
set_option maxHeartbeats 4000000 in
set_option maxRecDepth 100000 in
theorem wX5_note_s45 (C : Cx p s m args meth c cX5_note 5 wsL_law RX5 none D G ad) (n : Nat) (K17 : Int32 → Int32 → Int32 → St → Option (Unit × St))  (v2 : Int32) (v3 : Int32) (v4 : Int32)   (st : St) (res : (Unit × St)) (hK17 : ∀ (v2 : Int32) (v3 : Int32) (v4 : Int32) (st : St), K17 v2 v3 v4 st = some res → At p l e (rmK 1) s m args below meth c D G ad (MQV D G ad below args s res) 5 st [(0, .ref (ad 21)), (1, .ref (ad 53)), (2, .int v2), (3, .int v3), (4, .int v4)] 17 []) (hf : fX5_note_s45 n K17  v2 v3 v4 st = some res) : At p l e (rmK 1) s m args below meth c D G ad (MQV D G ad below args s res) 5 st [(0, .ref (ad 21)), (1, .ref (ad 53)), (2, .int v2), (3, .int v3), (4, .int v4)] 45 [] := by
  obtain ⟨hx, hb, hml, hown, hts, hr, hlk, hK, had, hSt⟩ := id C
  intro H locs ls hl hP hS
  unfold fX5_note_s45 at hf
  refine lv_aload_n hx hb dX5_note_45 rfl (lv_at hl 0 rfl) ?_
  refine g_getR hx hb hts inlX5 hown hK hP 21 ct_21 rfl 1 (by decide) (hts _ wm_4_20) rfl dX5_note_46 ?_
  refine lv_iload hx hb dX5_note_49 (lv_at hl 4 rfl) ?_
  refine lv_bipush (v := 40) hx hb dX5_note_51 (by decide) ?_
  refine lv_imul hx hb dX5_note_53 ?_
  refine lv_iload_n hx hb dX5_note_54 rfl (lv_at hl 3 rfl) ?_
  refine lv_iadd hx hb dX5_note_55 ?_
  refine lv_aload_n hx hb dX5_note_56 rfl (lv_at hl 1 rfl) ?_
  refine lv_aload_n hx hb dX5_note_57 rfl (lv_at hl 1 rfl) ?_
  refine g_getR hx hb hts inlX1 hown hK hP 53 ct_53 rfl 8 (by decide) (hts _ wm_22_13) rfl dX5_note_58 ?_
  refine lv_iload hx hb dX5_note_61 (lv_at hl 4 rfl) ?_
  obtain ⟨q, hq, hf⟩ := bd hf
  refine gcV_i (k := 0) (o := 53) (As := [.ref (ad 62), .int v4]) (rest := [.int ((v4 * 40) + v3), .ref (ad 23)]) hx hb hml hown hts hK hSt hP hS hl.1 (goodV wm_22_14 wm_13_9 wm_13_10 wm_3_6 wm_13_11) okX1_latest ct_53 rfl rfl (Nat.le_of_ble_eq_true rfl) (Nat.le_of_ble_eq_true rfl) rfl rfl (Nat.le_of_ble_eq_true rfl) dX5_note_63 (kX1_latest l D G ad had n 53 62 isFl_lit_53 ct_62 v4 st q hq) (fun H locs hP hS => ?_)
  exact wX5_note_s66 C n K17 v2 v3 v4 ((v4 * 40) + v3) q.1 q.2 res hK17 hf H locs ls (lv_sub hl [0, 1, 2, 3, 4] rfl) hP hS
def fX5_note_s44 (n : Nat) (K17 : Int32 → Int32 → Int32 → St → Option (Unit × St))  (v2 : Int32) (v3 : Int32) (v4 : Int32) (k1 : Int32) (k2 : Int32) (st : St) : Option (Unit × St) := if inb k1 320 = true then (fX5_note_s45 n K17 v2 v3 v4 (setI st 22 k1.toNatClampNeg k2)) else none
set_option maxHeartbeats 4000000 in
set_option maxRecDepth 100000 in
theorem wX5_note_s44 (C : Cx p s m args meth c cX5_note 5 wsL_law RX5 none D G ad) (n : Nat) (K17 : Int32 → Int32 → Int32 → St → Option (Unit × St))  (v2 : Int32) (v3 : Int32) (v4 : Int32) (k1 : Int32) (k2 : Int32)   (st : St) (res : (Unit × St)) (hK17 : ∀ (v2 : Int32) (v3 : Int32) (v4 : Int32) (st : St), K17 v2 v3 v4 st = some res → At p l e (rmK 1) s m args below meth c D G ad (MQV D G ad below args s res) 5 st [(0, .ref (ad 21)), (1, .ref (ad 53)), (2, .int v2), (3, .int v3), (4, .int v4)] 17 []) (hf : fX5_note_s44 n K17  v2 v3 v4 k1 k2 st = some res) : At p l e (rmK 1) s m args below meth c D G ad (MQV D G ad below args s res) 5 st [(0, .ref (ad 21)), (1, .ref (ad 53)), (2, .int v2), (3, .int v3), (4, .int v4)] 44 [.int k2, .int k1, .ref (ad 22)] := by
  obtain ⟨hx, hb, hml, hown, hts, hr, hlk, hK, had, hSt⟩ := id C
  intro H locs ls hl hP hS
  unfold fX5_note_s44 at hf
  obtain ⟨g1, hf⟩ := gd hf
  refine g_iast hx hb hK had hP hS 22 ct_22 g1 dX5_note_44 (fun H locs hP hS => ?_)
  exact wX5_note_s45 C n K17 v2 v3 v4 (setI st 22 k1.toNatClampNeg k2) res hK17 hf H locs ls (lv_sub hl [0, 1, 2, 3, 4] rfl) hP hS
def fX5_note_s23 (n : Nat) (K17 : Int32 → Int32 → Int32 → St → Option (Unit × St))  (v2 : Int32) (v3 : Int32) (v4 : Int32) (st : St) : Option (Unit × St) := (fX1_latest n 53 61 v4 st).bind (fun q => fX5_note_s44 n K17 v2 v3 v4 ((v4 * 40) + v3) q.1 q.2)
set_option maxHeartbeats 4000000 in
set_option maxRecDepth 100000 in
theorem wX5_note_s23 (C : Cx p s m args meth c cX5_note 5 wsL_law RX5 none D G ad) (n : Nat) (K17 : Int32 → Int32 → Int32 → St → Option (Unit × St))  (v2 : Int32) (v3 : Int32) (v4 : Int32)   (st : St) (res : (Unit × St)) (hK17 : ∀ (v2 : Int32) (v3 : Int32) (v4 : Int32) (st : St), K17 v2 v3 v4 st = some res → At p l e (rmK 1) s m args below meth c D G ad (MQV D G ad below args s res) 5 st [(0, .ref (ad 21)), (1, .ref (ad 53)), (2, .int v2), (3, .int v3), (4, .int v4)] 17 []) (hf : fX5_note_s23 n K17  v2 v3 v4 st = some res) : At p l e (rmK 1) s m args below meth c D G ad (MQV D G ad below args s res) 5 st [(0, .ref (ad 21)), (1, .ref (ad 53)), (2, .int v2), (3, .int v3), (4, .int v4)] 23 [] := by
  obtain ⟨hx, hb, hml, hown, hts, hr, hlk, hK, had, hSt⟩ := id C
  intro H locs ls hl hP hS
  unfold fX5_note_s23 at hf
  refine lv_aload_n hx hb dX5_note_23 rfl (lv_at hl 0 rfl) ?_
  refine g_getR hx hb hts inlX5 hown hK hP 21 ct_21 rfl 0 (by decide) (hts _ wm_4_19) rfl dX5_note_24 ?_
  refine lv_iload hx hb dX5_note_27 (lv_at hl 4 rfl) ?_
  refine lv_bipush (v := 40) hx hb dX5_note_29 (by decide) ?_
  refine lv_imul hx hb dX5_note_31 ?_
  refine lv_iload_n hx hb dX5_note_32 rfl (lv_at hl 3 rfl) ?_
  refine lv_iadd hx hb dX5_note_33 ?_
  refine lv_aload_n hx hb dX5_note_34 rfl (lv_at hl 1 rfl) ?_
  refine lv_aload_n hx hb dX5_note_35 rfl (lv_at hl 1 rfl) ?_
  refine g_getR hx hb hts inlX1 hown hK hP 53 ct_53 rfl 7 (by decide) (hts _ wm_22_12) rfl dX5_note_36 ?_
  refine lv_iload hx hb dX5_note_39 (lv_at hl 4 rfl) ?_
  obtain ⟨q, hq, hf⟩ := bd hf
  refine gcV_i (k := 0) (o := 53) (As := [.ref (ad 61), .int v4]) (rest := [.int ((v4 * 40) + v3), .ref (ad 22)]) hx hb hml hown hts hK hSt hP hS hl.1 (goodV wm_22_14 wm_13_9 wm_13_10 wm_3_6 wm_13_11) okX1_latest ct_53 rfl rfl (Nat.le_of_ble_eq_true rfl) (Nat.le_of_ble_eq_true rfl) rfl rfl (Nat.le_of_ble_eq_true rfl) dX5_note_41 (kX1_latest l D G ad had n 53 61 isFl_lit_53 ct_61 v4 st q hq) (fun H locs hP hS => ?_)
  exact wX5_note_s44 C n K17 v2 v3 v4 ((v4 * 40) + v3) q.1 q.2 res hK17 hf H locs ls (lv_sub hl [0, 1, 2, 3, 4] rfl) hP hS
def fX5_note_s17 (n : Nat) (K17 : Int32 → Int32 → Int32 → St → Option (Unit × St))  (v2 : Int32) (v3 : Int32) (v4 : Int32) (st : St) : Option (Unit × St) := if v2 ≤ v4 then fX5_note_s73 n st else fX5_note_s23 n K17 v2 v3 v4 st
set_option maxHeartbeats 4000000 in
set_option maxRecDepth 100000 in
theorem wX5_note_s17 (C : Cx p s m args meth c cX5_note 5 wsL_law RX5 none D G ad) (n : Nat) (K17 : Int32 → Int32 → Int32 → St → Option (Unit × St))  (v2 : Int32) (v3 : Int32) (v4 : Int32)   (st : St) (res : (Unit × St)) (hK17 : ∀ (v2 : Int32) (v3 : Int32) (v4 : Int32) (st : St), K17 v2 v3 v4 st = some res → At p l e (rmK 1) s m args below meth c D G ad (MQV D G ad below args s res) 5 st [(0, .ref (ad 21)), (1, .ref (ad 53)), (2, .int v2), (3, .int v3), (4, .int v4)] 17 []) (hf : fX5_note_s17 n K17  v2 v3 v4 st = some res) : At p l e (rmK 1) s m args below meth c D G ad (MQV D G ad below args s res) 5 st [(0, .ref (ad 21)), (1, .ref (ad 53)), (2, .int v2), (3, .int v3), (4, .int v4)] 17 [] := by
  obtain ⟨hx, hb, hml, hown, hts, hr, hlk, hK, had, hSt⟩ := id C
  intro H locs ls hl hP hS
  unfold fX5_note_s17 at hf
  refine lv_iload hx hb dX5_note_17 (lv_at hl 4 rfl) ?_
  refine lv_iload_n hx hb dX5_note_19 rfl (lv_at hl 2 rfl) ?_
  refine lv_icmp_ge (tgt := 73) hx hb dX5_note_20 (by decide) (fun q => ?_) (fun q => ?_)
  · exact wX5_note_s73 C n st res (it hf q) H locs ls (lv_sub hl [] rfl) hP hS
  · exact wX5_note_s23 C n K17 v2 v3 v4 st res hK17 (ie hf q) H locs ls (lv_sub hl [0, 1, 2, 3, 4] rfl) hP hS
def fX5_note_L17 (n : Nat)   : Nat → Int32 → Int32 → Int32 → St → Option (Unit × St)
  | 0, _, _, _, _ => none
  | k + 1, v2, v3, v4, st => fX5_note_s17 n (fX5_note_L17 n k)  v2 v3 v4 st
theorem wX5_note_L17 (C : Cx p s m args meth c cX5_note 5 wsL_law RX5 none D G ad) (n : Nat)    (res : (Unit × St))  : ∀ (k : Nat) (v2 : Int32) (v3 : Int32) (v4 : Int32)  (st : St), fX5_note_L17 n k v2 v3 v4 st = some res → At p l e (rmK 1) s m args below meth c D G ad (MQV D G ad below args s res) 5 st [(0, .ref (ad 21)), (1, .ref (ad 53)), (2, .int v2), (3, .int v3), (4, .int v4)] 17 [] := by
  intro k
  induction k with
  | zero => intro v2 v3 v4  st h; exact absurd h (by intro q; cases q)
  | succ k ih => intro v2 v3 v4  st h; exact wX5_note_s17 C n (fX5_note_L17 n k)  v2 v3 v4   st res ih h
def fX5_note_s0 (n : Nat)   (v2 : Int32) (st : St) : Option (Unit × St) := fX5_note_L17 n n v2 ((if 0 < ((st.1 53 10) - 1) then ((st.1 53 10) - 1) else 0) - (if 0 < ((st.1 53 10) - 1) then ((st.1 53 10) - 1) else 0) / 40 * 40) 0 st
set_option maxHeartbeats 4000000 in
set_option maxRecDepth 100000 in
theorem wX5_note_s0 (C : Cx p s m args meth c cX5_note 5 wsL_law RX5 none D G ad) (n : Nat)   (v2 : Int32)   (st : St) (res : (Unit × St))  (hf : fX5_note_s0 n   v2 st = some res) : At p l e (rmK 1) s m args below meth c D G ad (MQV D G ad below args s res) 5 st [(0, .ref (ad 21)), (1, .ref (ad 53)), (2, .int v2)] 0 [] := by
  obtain ⟨hx, hb, hml, hown, hts, hr, hlk, hK, had, hSt⟩ := id C
  intro H locs ls hl hP hS
  unfold fX5_note_s0 at hf
  refine lv_iconst (v := 0) hx hb dX5_note_0 (by decide) ?_
  refine lv_aload_n hx hb dX5_note_1 rfl (lv_at hl 1 rfl) ?_
  refine g_getI hx hb hts inlX1 hown hK hP 53 ct_53 rfl 10 (by decide) (hts _ wm_22_10) rfl dX5_note_2 ?_
  refine lv_iconst (v := 1) hx hb dX5_note_5 (by decide) ?_
  refine lv_isub hx hb dX5_note_6 ?_
  refine va_mmax hx hb (hml.trans hl.1.symm) hown (hts _ wm_22_11) (hts _ wm_20_22) (hts _ wm_18_20) (hts _ wm_20_23) (Nat.le_of_ble_eq_true rfl) (Nat.le_of_ble_eq_true rfl) (Nat.zero_le _) (Nat.zero_le _) dX5_note_7 ?_
  refine lv_bipush (v := 40) hx hb dX5_note_10 (by decide) ?_
  refine lv_irem hx hb dX5_note_12 (by decide) ?_
  refine lv_istore_n (lv' := [(3, .int ((if 0 < ((st.1 53 10) - 1) then ((st.1 53 10) - 1) else 0) - (if 0 < ((st.1 53 10) - 1) then ((st.1 53 10) - 1) else 0) / 40 * 40)), (0, .ref (ad 21)), (1, .ref (ad 53)), (2, .int v2)]) hx hb dX5_note_13 rfl hl (by decide) rfl (fun ls hl => ?_)
  refine lv_iconst (v := 0) hx hb dX5_note_14 (by decide) ?_
  refine lv_istore (lv' := [(4, .int 0), (3, .int ((if 0 < ((st.1 53 10) - 1) then ((st.1 53 10) - 1) else 0) - (if 0 < ((st.1 53 10) - 1) then ((st.1 53 10) - 1) else 0) / 40 * 40)), (0, .ref (ad 21)), (1, .ref (ad 53)), (2, .int v2)]) hx hb dX5_note_15 hl (by decide) rfl (fun ls hl => ?_)
  exact wX5_note_L17 C n res n v2 ((if 0 < ((st.1 53 10) - 1) then ((st.1 53 10) - 1) else 0) - (if 0 < ((st.1 53 10) - 1) then ((st.1 53 10) - 1) else 0) / 40 * 40) 0 st hf H locs ls (lv_sub hl [2, 3, 4, 1, 0] rfl) hP hS
def fX5_note (n : Nat)  (a2 : Int32) (st : St) : Option (Unit × St) := fX5_note_s0 n a2 st
theorem okX5_note : okY yX5_note RX5 2 := by unfold okY; decide +kernel
end
set_option maxRecDepth 100000 in
theorem kX5_note (l : Launch) (D : va_G) (G : G3) (ad : Nat → Nat) (had : Adr ad) (n : Nat)   (a2 : Int32) (st : St) (res : (Unit × St)) (hf : fX5_note n  a2 st = some res) {sz : Nat} : CtV l yX5_note (wsU yX5_note cX5_note 5 none) (rmK 1) D G ad sz [.ref (ad 21), .ref (ad 53), .int a2] st res := by
  refine Met.ofW (cc := cX5_note) (maxL := 5) (ret := none) (by decide) rfl ?_
  intro p e s m args below meth c s₁ B hml hv
  obtain ⟨rfl, hsz, hP, hK, hSt⟩ := hv
  have hts := atoms_spec (ws := wsU yX5_note cX5_note 5 none) B.pre
  have C : Cx p s m _ meth c cX5_note 5 wsL_law RX5 none D G ad := ⟨B.exec, B.bytes, hml, findClass_of_methodNamed B.named, fun w h => hts w (List.mem_cons_of_mem _ h), B.returns, B.notSynchronized, hK, had, hSt⟩
  subst hsz
  have hl := lv_entry ([.ref (ad 21), .ref (ad 53), .int a2]) (n := 5) (Nat.le_of_ble_eq_true rfl)
  rw [lg_entry_eq]
  generalize (lg_sl ([.ref (ad 21), .ref (ad 53), .int a2]) ++ List.replicate (5 - (lg_sl ([.ref (ad 21), .ref (ad 53), .int a2])).length) Slot.unset).toArray = ls at hl ⊢
  exact wX5_note_s0 C n  a2   st res hf s.heap [] ls (lv_sub hl [0, 1, 2] rfl) hP va_S.rf
section
variable {p : Program} {l : Launch} {e : Env} {s : State} {m : MethodId} {args : Array Value} {below : List Frame} {meth : Method} {c : Code} {D : va_G} {G : G3} {ad : Nat → Nat}
def fX5_spread_s79 (n : Nat)   (v3 : Int32) (v6 : Int64) (v8 : Int64) (st : St) : Option (Int64 × St) := some ((v3.toInt64 * v8) - (v6 * v6), st)
set_option maxHeartbeats 4000000 in
set_option maxRecDepth 100000 in
theorem wX5_spread_s79 (C : Cx p s m args meth c cX5_spread 13 wsL_law RX5 (some .long) D G ad) (n : Nat)   (v3 : Int32) (v6 : Int64) (v8 : Int64)   (st : St) (res : (Int64 × St))  (hf : fX5_spread_s79 n   v3 v6 v8 st = some res) : At p l e (rmK 1) s m args below meth c D G ad (MQJ D G ad below args s res) 13 st [(3, .int v3), (6, .long v6), (8, .long v8)] 79 [] := by
  obtain ⟨hx, hb, hml, hown, hts, hr, hlk, hK, had, hSt⟩ := id C
  intro H locs ls hl hP hS
  unfold fX5_spread_s79 at hf
  refine lv_iload_n hx hb dX5_spread_79 rfl (lv_at hl 0 rfl) ?_
  refine lv_i2l hx hb dX5_spread_80 rfl ?_
  refine lv_lload hx hb dX5_spread_81 (lv_at hl 2 rfl) ?_
  refine lv_lmul hx hb dX5_spread_83 ?_
  refine lv_lload hx hb dX5_spread_84 (lv_at hl 1 rfl) ?_
  refine lv_lload hx hb dX5_spread_86 (lv_at hl 1 rfl) ?_
  refine lv_lmul hx hb dX5_spread_88 ?_
  refine lv_lsub hx hb dX5_spread_89 ?_
  exact g_lret hx hb hr hlk hP hS dX5_spread_90 hf
def fX5_spread_s40 (n : Nat) (K33 : Int32 → Int32 → Int32 → Nat → Int64 → Int64 → Int32 → St → Option (Int64 × St))  (v1 : Int32) (v3 : Int32) (v4 : Int32) (q0 : Nat) (v6 : Int64) (v8 : Int64) (v10 : Int32) (st : St) : Option (Int64 × St) := if inb ((v1 * 40) + (v10 - v10 / 40 * 40)) 320 = true then (K33 v1 v3 v4 q0 (v6 + ((st.1 q0 ((v1 * 40) + (v10 - v10 / 40 * 40)).toNatClampNeg).toInt64)) (v8 + (((st.1 q0 ((v1 * 40) + (v10 - v10 / 40 * 40)).toNatClampNeg).toInt64) * ((st.1 q0 ((v1 * 40) + (v10 - v10 / 40 * 40)).toNatClampNeg).toInt64))) (v10 + 1) st) else none
set_option maxHeartbeats 4000000 in
set_option maxRecDepth 100000 in
theorem wX5_spread_s40 (C : Cx p s m args meth c cX5_spread 13 wsL_law RX5 (some .long) D G ad) (n : Nat) (K33 : Int32 → Int32 → Int32 → Nat → Int64 → Int64 → Int32 → St → Option (Int64 × St))  (v1 : Int32) (v3 : Int32) (v4 : Int32) (q0 : Nat) (v6 : Int64) (v8 : Int64) (v10 : Int32)  (hq0 : ctab[q0]? = some (.inr (320, 0))) (st : St) (res : (Int64 × St)) (hK33 : ∀ (v1 : Int32) (v3 : Int32) (v4 : Int32) (q0 : Nat) (v6 : Int64) (v8 : Int64) (v10 : Int32) (hq0 : ctab[q0]? = some (.inr (320, 0))) (st : St), K33 v1 v3 v4 q0 v6 v8 v10 st = some res → At p l e (rmK 1) s m args below meth c D G ad (MQJ D G ad below args s res) 13 st [(1, .int v1), (3, .int v3), (4, .int v4), (5, .ref (ad q0)), (6, .long v6), (8, .long v8), (10, .int v10)] 33 []) (hf : fX5_spread_s40 n K33  v1 v3 v4 q0 v6 v8 v10 st = some res) : At p l e (rmK 1) s m args below meth c D G ad (MQJ D G ad below args s res) 13 st [(1, .int v1), (3, .int v3), (4, .int v4), (5, .ref (ad q0)), (6, .long v6), (8, .long v8), (10, .int v10)] 40 [] := by
  obtain ⟨hx, hb, hml, hown, hts, hr, hlk, hK, had, hSt⟩ := id C
  intro H locs ls hl hP hS
  unfold fX5_spread_s40 at hf
  refine lv_aload hx hb dX5_spread_40 (lv_at hl 3 rfl) ?_
  refine lv_iload_n hx hb dX5_spread_42 rfl (lv_at hl 0 rfl) ?_
  refine lv_bipush (v := 40) hx hb dX5_spread_43 (by decide) ?_
  refine lv_imul hx hb dX5_spread_45 ?_
  refine lv_iload hx hb dX5_spread_46 (lv_at hl 6 rfl) ?_
  refine lv_bipush (v := 40) hx hb dX5_spread_48 (by decide) ?_
  refine lv_irem hx hb dX5_spread_50 (by decide) ?_
  refine lv_iadd hx hb dX5_spread_51 ?_
  obtain ⟨g1, hf⟩ := gd hf
  refine g_iald hx hb hK hP q0 hq0 g1 dX5_spread_52 ?_
  refine lv_i2l hx hb dX5_spread_53 rfl ?_
  refine lv_lstore (lv' := [(11, .long ((st.1 q0 ((v1 * 40) + (v10 - v10 / 40 * 40)).toNatClampNeg).toInt64)), (1, .int v1), (3, .int v3), (4, .int v4), (5, .ref (ad q0)), (6, .long v6), (8, .long v8), (10, .int v10)]) hx hb dX5_spread_54 hl (by decide) rfl (fun ls hl => ?_)
  refine lv_lload hx hb dX5_spread_56 (lv_at hl 5 rfl) ?_
  refine lv_lload hx hb dX5_spread_58 (lv_at hl 0 rfl) ?_
  refine lv_ladd hx hb dX5_spread_60 ?_
  refine lv_lstore (lv' := [(6, .long (v6 + ((st.1 q0 ((v1 * 40) + (v10 - v10 / 40 * 40)).toNatClampNeg).toInt64))), (11, .long ((st.1 q0 ((v1 * 40) + (v10 - v10 / 40 * 40)).toNatClampNeg).toInt64)), (1, .int v1), (3, .int v3), (4, .int v4), (5, .ref (ad q0)), (8, .long v8), (10, .int v10)]) hx hb dX5_spread_61 hl (by decide) rfl (fun ls hl => ?_)
  refine lv_lload hx hb dX5_spread_63 (lv_at hl 6 rfl) ?_
  refine lv_lload hx hb dX5_spread_65 (lv_at hl 1 rfl) ?_
  refine lv_lload hx hb dX5_spread_67 (lv_at hl 1 rfl) ?_
  refine lv_lmul hx hb dX5_spread_69 ?_
  refine lv_ladd hx hb dX5_spread_70 ?_
  refine lv_lstore (lv' := [(8, .long (v8 + (((st.1 q0 ((v1 * 40) + (v10 - v10 / 40 * 40)).toNatClampNeg).toInt64) * ((st.1 q0 ((v1 * 40) + (v10 - v10 / 40 * 40)).toNatClampNeg).toInt64)))), (6, .long (v6 + ((st.1 q0 ((v1 * 40) + (v10 - v10 / 40 * 40)).toNatClampNeg).toInt64))), (11, .long ((st.1 q0 ((v1 * 40) + (v10 - v10 / 40 * 40)).toNatClampNeg).toInt64)), (1, .int v1), (3, .int v3), (4, .int v4), (5, .ref (ad q0)), (10, .int v10)]) hx hb dX5_spread_71 hl (by decide) rfl (fun ls hl => ?_)
  refine lv_iinc (v := v10 + 1) (lv' := [(10, .int (v10 + 1)), (8, .long (v8 + (((st.1 q0 ((v1 * 40) + (v10 - v10 / 40 * 40)).toNatClampNeg).toInt64) * ((st.1 q0 ((v1 * 40) + (v10 - v10 / 40 * 40)).toNatClampNeg).toInt64)))), (6, .long (v6 + ((st.1 q0 ((v1 * 40) + (v10 - v10 / 40 * 40)).toNatClampNeg).toInt64))), (11, .long ((st.1 q0 ((v1 * 40) + (v10 - v10 / 40 * 40)).toNatClampNeg).toInt64)), (1, .int v1), (3, .int v3), (4, .int v4), (5, .ref (ad q0))]) hx hb dX5_spread_73 hl (k := 7) rfl rfl (by decide) rfl (fun ls hl => ?_)
  refine lv_goto (tgt := 33) hx hb dX5_spread_76 (by decide) ?_
  exact hK33 v1 v3 v4 q0 (v6 + ((st.1 q0 ((v1 * 40) + (v10 - v10 / 40 * 40)).toNatClampNeg).toInt64)) (v8 + (((st.1 q0 ((v1 * 40) + (v10 - v10 / 40 * 40)).toNatClampNeg).toInt64) * ((st.1 q0 ((v1 * 40) + (v10 - v10 / 40 * 40)).toNatClampNeg).toInt64))) (v10 + 1) hq0 st hf H locs ls (lv_sub hl [4, 5, 6, 7, 2, 1, 0] rfl) hP hS
def fX5_spread_s33 (n : Nat) (K33 : Int32 → Int32 → Int32 → Nat → Int64 → Int64 → Int32 → St → Option (Int64 × St))  (v1 : Int32) (v3 : Int32) (v4 : Int32) (q0 : Nat) (v6 : Int64) (v8 : Int64) (v10 : Int32) (st : St) : Option (Int64 × St) := if v4 ≤ v10 then fX5_spread_s79 n v3 v6 v8 st else fX5_spread_s40 n K33 v1 v3 v4 q0 v6 v8 v10 st
set_option maxHeartbeats 4000000 in
set_option maxRecDepth 100000 in
theorem wX5_spread_s33 (C : Cx p s m args meth c cX5_spread 13 wsL_law RX5 (some .long) D G ad) (n : Nat) (K33 : Int32 → Int32 → Int32 → Nat → Int64 → Int64 → Int32 → St → Option (Int64 × St))  (v1 : Int32) (v3 : Int32) (v4 : Int32) (q0 : Nat) (v6 : Int64) (v8 : Int64) (v10 : Int32)  (hq0 : ctab[q0]? = some (.inr (320, 0))) (st : St) (res : (Int64 × St)) (hK33 : ∀ (v1 : Int32) (v3 : Int32) (v4 : Int32) (q0 : Nat) (v6 : Int64) (v8 : Int64) (v10 : Int32) (hq0 : ctab[q0]? = some (.inr (320, 0))) (st : St), K33 v1 v3 v4 q0 v6 v8 v10 st = some res → At p l e (rmK 1) s m args below meth c D G ad (MQJ D G ad below args s res) 13 st [(1, .int v1), (3, .int v3), (4, .int v4), (5, .ref (ad q0)), (6, .long v6), (8, .long v8), (10, .int v10)] 33 []) (hf : fX5_spread_s33 n K33  v1 v3 v4 q0 v6 v8 v10 st = some res) : At p l e (rmK 1) s m args below meth c D G ad (MQJ D G ad below args s res) 13 st [(1, .int v1), (3, .int v3), (4, .int v4), (5, .ref (ad q0)), (6, .long v6), (8, .long v8), (10, .int v10)] 33 [] := by
  obtain ⟨hx, hb, hml, hown, hts, hr, hlk, hK, had, hSt⟩ := id C
  intro H locs ls hl hP hS
  unfold fX5_spread_s33 at hf
  refine lv_iload hx hb dX5_spread_33 (lv_at hl 6 rfl) ?_
  refine lv_iload hx hb dX5_spread_35 (lv_at hl 2 rfl) ?_
  refine lv_icmp_ge (tgt := 79) hx hb dX5_spread_37 (by decide) (fun q => ?_) (fun q => ?_)
  · exact wX5_spread_s79 C n v3 v6 v8 st res (it hf q) H locs ls (lv_sub hl [1, 4, 5] rfl) hP hS
  · exact wX5_spread_s40 C n K33 v1 v3 v4 q0 v6 v8 v10 hq0 st res hK33 (ie hf q) H locs ls (lv_sub hl [0, 1, 2, 3, 4, 5, 6] rfl) hP hS
def fX5_spread_L33 (n : Nat)   : Nat → Int32 → Int32 → Int32 → Nat → Int64 → Int64 → Int32 → St → Option (Int64 × St)
  | 0, _, _, _, _, _, _, _, _ => none
  | k + 1, v1, v3, v4, q0, v6, v8, v10, st => fX5_spread_s33 n (fX5_spread_L33 n k)  v1 v3 v4 q0 v6 v8 v10 st
theorem wX5_spread_L33 (C : Cx p s m args meth c cX5_spread 13 wsL_law RX5 (some .long) D G ad) (n : Nat)    (res : (Int64 × St))  : ∀ (k : Nat) (v1 : Int32) (v3 : Int32) (v4 : Int32) (q0 : Nat) (v6 : Int64) (v8 : Int64) (v10 : Int32) (hq0 : ctab[q0]? = some (.inr (320, 0))) (st : St), fX5_spread_L33 n k v1 v3 v4 q0 v6 v8 v10 st = some res → At p l e (rmK 1) s m args below meth c D G ad (MQJ D G ad below args s res) 13 st [(1, .int v1), (3, .int v3), (4, .int v4), (5, .ref (ad q0)), (6, .long v6), (8, .long v8), (10, .int v10)] 33 [] := by
  intro k
  induction k with
  | zero => intro v1 v3 v4 q0 v6 v8 v10 hq0 st h; exact absurd h (by intro q; cases q)
  | succ k ih => intro v1 v3 v4 q0 v6 v8 v10 hq0 st h; exact wX5_spread_s33 C n (fX5_spread_L33 n k)  v1 v3 v4 q0 v6 v8 v10  hq0 st res ih h
def fX5_spread_s15 (n : Nat)   (v1 : Int32) (v3 : Int32) (v4 : Int32) (q0 : Nat) (st : St) : Option (Int64 × St) := fX5_spread_L33 n n v1 v3 v4 q0 0 0 (if 0 < (v4 - v3) then (v4 - v3) else 0) st
set_option maxHeartbeats 4000000 in
set_option maxRecDepth 100000 in
theorem wX5_spread_s15 (C : Cx p s m args meth c cX5_spread 13 wsL_law RX5 (some .long) D G ad) (n : Nat)   (v1 : Int32) (v3 : Int32) (v4 : Int32) (q0 : Nat)  (hq0 : ctab[q0]? = some (.inr (320, 0))) (st : St) (res : (Int64 × St))  (hf : fX5_spread_s15 n   v1 v3 v4 q0 st = some res) : At p l e (rmK 1) s m args below meth c D G ad (MQJ D G ad below args s res) 13 st [(1, .int v1), (3, .int v3), (4, .int v4)] 15 [.ref (ad q0)] := by
  obtain ⟨hx, hb, hml, hown, hts, hr, hlk, hK, had, hSt⟩ := id C
  intro H locs ls hl hP hS
  unfold fX5_spread_s15 at hf
  refine lv_astore (lv' := [(5, .ref (ad q0)), (1, .int v1), (3, .int v3), (4, .int v4)]) hx hb dX5_spread_15 hl (by decide) rfl (fun ls hl => ?_)
  refine lv_lconst (v := 0) hx hb dX5_spread_17 (by decide) ?_
  refine lv_lstore (lv' := [(6, .long 0), (5, .ref (ad q0)), (1, .int v1), (3, .int v3), (4, .int v4)]) hx hb dX5_spread_18 hl (by decide) rfl (fun ls hl => ?_)
  refine lv_lconst (v := 0) hx hb dX5_spread_20 (by decide) ?_
  refine lv_lstore (lv' := [(8, .long 0), (6, .long 0), (5, .ref (ad q0)), (1, .int v1), (3, .int v3), (4, .int v4)]) hx hb dX5_spread_21 hl (by decide) rfl (fun ls hl => ?_)
  refine lv_iconst (v := 0) hx hb dX5_spread_23 (by decide) ?_
  refine lv_iload hx hb dX5_spread_24 (lv_at hl 5 rfl) ?_
  refine lv_iload_n hx hb dX5_spread_26 rfl (lv_at hl 4 rfl) ?_
  refine lv_isub hx hb dX5_spread_27 ?_
  refine va_mmax hx hb (hml.trans hl.1.symm) hown (hts _ wm_22_11) (hts _ wm_20_22) (hts _ wm_18_20) (hts _ wm_20_23) (Nat.le_of_ble_eq_true rfl) (Nat.le_of_ble_eq_true rfl) (Nat.zero_le _) (Nat.zero_le _) dX5_spread_28 ?_
  refine lv_istore (lv' := [(10, .int (if 0 < (v4 - v3) then (v4 - v3) else 0)), (8, .long 0), (6, .long 0), (5, .ref (ad q0)), (1, .int v1), (3, .int v3), (4, .int v4)]) hx hb dX5_spread_31 hl (by decide) rfl (fun ls hl => ?_)
  exact wX5_spread_L33 C n res n v1 v3 v4 q0 0 0 (if 0 < (v4 - v3) then (v4 - v3) else 0) hq0 st hf H locs ls (lv_sub hl [4, 5, 6, 3, 2, 1, 0] rfl) hP hS
def fX5_spread_s11 (n : Nat)   (v1 : Int32) (v3 : Int32) (v4 : Int32) (st : St) : Option (Int64 × St) := fX5_spread_s15 n v1 v3 v4 23 st
set_option maxHeartbeats 4000000 in
set_option maxRecDepth 100000 in
theorem wX5_spread_s11 (C : Cx p s m args meth c cX5_spread 13 wsL_law RX5 (some .long) D G ad) (n : Nat)   (v1 : Int32) (v3 : Int32) (v4 : Int32)   (st : St) (res : (Int64 × St))  (hf : fX5_spread_s11 n   v1 v3 v4 st = some res) : At p l e (rmK 1) s m args below meth c D G ad (MQJ D G ad below args s res) 13 st [(0, .ref (ad 21)), (1, .int v1), (3, .int v3), (4, .int v4)] 11 [] := by
  obtain ⟨hx, hb, hml, hown, hts, hr, hlk, hK, had, hSt⟩ := id C
  intro H locs ls hl hP hS
  unfold fX5_spread_s11 at hf
  refine lv_aload_n hx hb dX5_spread_11 rfl (lv_at hl 0 rfl) ?_
  refine g_getR hx hb hts inlX5 hown hK hP 21 ct_21 rfl 1 (by decide) (hts _ wm_4_20) rfl dX5_spread_12 ?_
  exact wX5_spread_s15 C n v1 v3 v4 23 ct_23 st res hf H locs ls (lv_sub hl [1, 2, 3] rfl) hP hS
def fX5_spread_s4 (n : Nat)   (v1 : Int32) (v3 : Int32) (v4 : Int32) (st : St) : Option (Int64 × St) := fX5_spread_s15 n v1 v3 v4 22 st
set_option maxHeartbeats 4000000 in
set_option maxRecDepth 100000 in
theorem wX5_spread_s4 (C : Cx p s m args meth c cX5_spread 13 wsL_law RX5 (some .long) D G ad) (n : Nat)   (v1 : Int32) (v3 : Int32) (v4 : Int32)   (st : St) (res : (Int64 × St))  (hf : fX5_spread_s4 n   v1 v3 v4 st = some res) : At p l e (rmK 1) s m args below meth c D G ad (MQJ D G ad below args s res) 13 st [(0, .ref (ad 21)), (1, .int v1), (3, .int v3), (4, .int v4)] 4 [] := by
  obtain ⟨hx, hb, hml, hown, hts, hr, hlk, hK, had, hSt⟩ := id C
  intro H locs ls hl hP hS
  unfold fX5_spread_s4 at hf
  refine lv_aload_n hx hb dX5_spread_4 rfl (lv_at hl 0 rfl) ?_
  refine g_getR hx hb hts inlX5 hown hK hP 21 ct_21 rfl 0 (by decide) (hts _ wm_4_19) rfl dX5_spread_5 ?_
  refine lv_goto (tgt := 15) hx hb dX5_spread_8 (by decide) ?_
  exact wX5_spread_s15 C n v1 v3 v4 22 ct_22 st res hf H locs ls (lv_sub hl [1, 2, 3] rfl) hP hS
def fX5_spread_s0 (n : Nat)   (v1 : Int32) (v2 : Int32) (v3 : Int32) (v4 : Int32) (st : St) : Option (Int64 × St) := if v2 = 0 then fX5_spread_s4 n v1 v3 v4 st else fX5_spread_s11 n v1 v3 v4 st
set_option maxHeartbeats 4000000 in
set_option maxRecDepth 100000 in
theorem wX5_spread_s0 (C : Cx p s m args meth c cX5_spread 13 wsL_law RX5 (some .long) D G ad) (n : Nat)   (v1 : Int32) (v2 : Int32) (v3 : Int32) (v4 : Int32)   (st : St) (res : (Int64 × St))  (hf : fX5_spread_s0 n   v1 v2 v3 v4 st = some res) : At p l e (rmK 1) s m args below meth c D G ad (MQJ D G ad below args s res) 13 st [(0, .ref (ad 21)), (1, .int v1), (2, .int v2), (3, .int v3), (4, .int v4)] 0 [] := by
  obtain ⟨hx, hb, hml, hown, hts, hr, hlk, hK, had, hSt⟩ := id C
  intro H locs ls hl hP hS
  unfold fX5_spread_s0 at hf
  refine lv_iload_n hx hb dX5_spread_0 rfl (lv_at hl 2 rfl) ?_
  refine lv_if_ne (tgt := 11) hx hb dX5_spread_1 (by decide) (fun q => ?_) (fun q => ?_)
  · exact wX5_spread_s11 C n v1 v3 v4 st res (ie hf q) H locs ls (lv_sub hl [0, 1, 3, 4] rfl) hP hS
  · exact wX5_spread_s4 C n v1 v3 v4 st res (it hf q) H locs ls (lv_sub hl [0, 1, 3, 4] rfl) hP hS
def fX5_spread (n : Nat)  (a1 : Int32) (a2 : Int32) (a3 : Int32) (a4 : Int32) (st : St) : Option (Int64 × St) := fX5_spread_s0 n a1 a2 a3 a4 st
theorem okX5_spread : okY yX5_spread RX5 4 := by unfold okY; decide +kernel
end
set_option maxRecDepth 100000 in
theorem kX5_spread (l : Launch) (D : va_G) (G : G3) (ad : Nat → Nat) (had : Adr ad) (n : Nat)   (a1 : Int32) (a2 : Int32) (a3 : Int32) (a4 : Int32) (st : St) (res : (Int64 × St)) (hf : fX5_spread n  a1 a2 a3 a4 st = some res) {sz : Nat} : CtJ l yX5_spread (wsU yX5_spread cX5_spread 13 (some .long)) (rmK 1) D G ad sz [.ref (ad 21), .int a1, .int a2, .int a3, .int a4] st res := by
  refine Met.ofW (cc := cX5_spread) (maxL := 13) (ret := (some .long)) (by decide) rfl ?_
  intro p e s m args below meth c s₁ B hml hv
  obtain ⟨rfl, hsz, hP, hK, hSt⟩ := hv
  have hts := atoms_spec (ws := wsU yX5_spread cX5_spread 13 (some .long)) B.pre
  have C : Cx p s m _ meth c cX5_spread 13 wsL_law RX5 (some .long) D G ad := ⟨B.exec, B.bytes, hml, findClass_of_methodNamed B.named, fun w h => hts w (List.mem_cons_of_mem _ h), B.returns, B.notSynchronized, hK, had, hSt⟩
  subst hsz
  have hl := lv_entry ([.ref (ad 21), .int a1, .int a2, .int a3, .int a4]) (n := 13) (Nat.le_of_ble_eq_true rfl)
  rw [lg_entry_eq]
  generalize (lg_sl ([.ref (ad 21), .int a1, .int a2, .int a3, .int a4]) ++ List.replicate (13 - (lg_sl ([.ref (ad 21), .int a1, .int a2, .int a3, .int a4])).length) Slot.unset).toArray = ls at hl ⊢
  exact wX5_spread_s0 C n  a1 a2 a3 a4   st res hf s.heap [] ls (lv_sub hl [0, 1, 2, 3, 4] rfl) hP va_S.rf
