theorem wm_2_19 : Cond.initialized RX3 ∈ wsL_law := in_r2 _ (mm_at 19 rfl)
theorem wm_5_22 : Cond.fieldLink RX3 9 "OrderEcho$Levels" "weights" "[I" ∈ wsL_law := in_r5 _ (mm_at 22 rfl)
theorem wm_6_0 : Cond.fieldLink RX3 17 "OrderEcho$Levels" "nearSums" "[J" ∈ wsL_law := in_r6 _ (mm_at 0 rfl)
theorem wm_6_1 : Cond.fieldLink RX3 20 "OrderEcho$Levels" "farSums" "[J" ∈ wsL_law := in_r6 _ (mm_at 1 rfl)
theorem wm_6_2 : Cond.fieldLink RX3 23 "OrderEcho$Levels" "nearCosts" "[J" ∈ wsL_law := in_r6 _ (mm_at 2 rfl)
theorem wm_9_18 : Cond.static yX10_within ∈ wsL_law := in_r9 _ (mm_at 18 rfl)
theorem wm_9_19 : Cond.code yX10_within cX10_within 3 (some .boolean) ∈ wsL_law := in_r9 _ (mm_at 19 rfl)
theorem wm_40_17 : Cond.instanceMethod yX3_addUp ∈ wsL_law := in_r40 _ (mm_at 17 rfl)
theorem wm_40_18 : Cond.selects RX3 yX3_addUp yX3_addUp ∈ wsL_law := in_r40 _ (mm_at 18 rfl)
theorem wm_40_19 : Cond.code yX3_addUp cX3_addUp 8 none ∈ wsL_law := in_r40 _ (mm_at 19 rfl)
theorem wm_41_13 : Cond.fieldLink RX3 26 "OrderEcho$Levels" "nearLead" "I" ∈ wsL_law := in_r41 _ (mm_at 13 rfl)
theorem wm_41_14 : Cond.fieldLink RX3 30 "OrderEcho$Levels" "farLead" "I" ∈ wsL_law := in_r41 _ (mm_at 14 rfl)
theorem wm_41_15 : Cond.fieldLink RX3 33 "OrderEcho$Levels" "nearHold" "I" ∈ wsL_law := in_r41 _ (mm_at 15 rfl)
theorem wm_41_16 : Cond.fieldLink RX3 36 "OrderEcho$Levels" "farHold" "I" ∈ wsL_law := in_r41 _ (mm_at 16 rfl)
theorem wm_41_17 : Cond.fieldLink RX3 39 "OrderEcho$Levels" "lack" "I" ∈ wsL_law := in_r41 _ (mm_at 17 rfl)
theorem wm_41_22 : Cond.fieldLink RX3 52 "OrderEcho$Levels" "whole" "J" ∈ wsL_law := in_r41 _ (mm_at 22 rfl)
theorem wm_41_23 : Cond.fieldLink RX3 60 "OrderEcho$Levels" "near" "I" ∈ wsL_law := in_r41 _ (mm_at 23 rfl)
theorem wm_42_0 : Cond.methodLink RX3 48 yX3_addUp ∈ wsL_law := in_r42 _ (mm_at 0 rfl)
theorem wm_42_1 : Cond.methodLink RX3 56 yX3_nearSum ∈ wsL_law := in_r42 _ (mm_at 1 rfl)
theorem wm_42_2 : Cond.instanceMethod yX3_nearSum ∈ wsL_law := in_r42 _ (mm_at 2 rfl)
theorem wm_42_3 : Cond.selects RX3 yX3_nearSum yX3_nearSum ∈ wsL_law := in_r42 _ (mm_at 3 rfl)
theorem wm_42_4 : Cond.code yX3_nearSum cX3_nearSum 7 (some .long) ∈ wsL_law := in_r42 _ (mm_at 4 rfl)
theorem wm_42_5 : Cond.methodLink RX3 63 yX3_nearCost ∈ wsL_law := in_r42 _ (mm_at 5 rfl)
theorem wm_42_6 : Cond.instanceMethod yX3_nearCost ∈ wsL_law := in_r42 _ (mm_at 6 rfl)
theorem wm_42_7 : Cond.selects RX3 yX3_nearCost yX3_nearCost ∈ wsL_law := in_r42 _ (mm_at 7 rfl)
theorem wm_42_8 : Cond.code yX3_nearCost cX3_nearCost 2 (some .long) ∈ wsL_law := in_r42 _ (mm_at 8 rfl)
theorem wm_42_13 : Cond.methodLink RX3 72 yX3_farCost ∈ wsL_law := in_r42 _ (mm_at 13 rfl)
theorem wm_42_14 : Cond.instanceMethod yX3_farCost ∈ wsL_law := in_r42 _ (mm_at 14 rfl)
theorem wm_42_15 : Cond.selects RX3 yX3_farCost yX3_farCost ∈ wsL_law := in_r42 _ (mm_at 15 rfl)
theorem wm_42_16 : Cond.code yX3_farCost cX3_farCost 7 (some .long) ∈ wsL_law := in_r42 _ (mm_at 16 rfl)
theorem wm_42_17 : Cond.methodLink RX3 66 Lib.Math.min.name ∈ wsL_law := in_r42 _ (mm_at 17 rfl)
section
variable {p : Program} {l : Launch} {e : Env} {s : State} {m : MethodId} {args : Array Value} {below : List Frame} {meth : Method} {c : Code} {D : va_G} {G : G3} {ad : Nat → Nat}
def fX10_within_s15 (n : Nat)   (k0 : Int32) (st : St) : Option (Int32 × St) := if zb k0 = true then (some (k0, st)) else none
set_option maxHeartbeats 4000000 in
set_option maxRecDepth 100000 in
theorem wX10_within_s15 (C : Cx p s m args meth c cX10_within 3 wsL_law RX10 (some .boolean) D G ad) (n : Nat)   (k0 : Int32)   (st : St) (res : (Int32 × St))  (hf : fX10_within_s15 n   k0 st = some res) : At p l e (rmK 0) s m args below meth c D G ad (MQI D G ad below args s res) 3 st [] 15 [.int k0] := by
  obtain ⟨hx, hb, hml, hown, hts, hr, hlk, hK, had, hSt⟩ := id C
  intro H locs ls hl hP hS
  unfold fX10_within_s15 at hf
  obtain ⟨gz, hf⟩ := gd hf
  exact g_zret hx hb hr hlk hP hS (zb_of gz) dX10_within_15 hf
def fX10_within_s14 (n : Nat)    (st : St) : Option (Int32 × St) := fX10_within_s15 n 0 st
set_option maxHeartbeats 4000000 in
set_option maxRecDepth 100000 in
theorem wX10_within_s14 (C : Cx p s m args meth c cX10_within 3 wsL_law RX10 (some .boolean) D G ad) (n : Nat)      (st : St) (res : (Int32 × St))  (hf : fX10_within_s14 n    st = some res) : At p l e (rmK 0) s m args below meth c D G ad (MQI D G ad below args s res) 3 st [] 14 [] := by
  obtain ⟨hx, hb, hml, hown, hts, hr, hlk, hK, had, hSt⟩ := id C
  intro H locs ls hl hP hS
  unfold fX10_within_s14 at hf
  refine lv_iconst (v := 0) hx hb dX10_within_14 (by decide) ?_
  exact wX10_within_s15 C n 0 st res hf H locs ls (lv_sub hl [] rfl) hP hS
def fX10_within_s10 (n : Nat)    (st : St) : Option (Int32 × St) := fX10_within_s15 n 1 st
set_option maxHeartbeats 4000000 in
set_option maxRecDepth 100000 in
theorem wX10_within_s10 (C : Cx p s m args meth c cX10_within 3 wsL_law RX10 (some .boolean) D G ad) (n : Nat)      (st : St) (res : (Int32 × St))  (hf : fX10_within_s10 n    st = some res) : At p l e (rmK 0) s m args below meth c D G ad (MQI D G ad below args s res) 3 st [] 10 [] := by
  obtain ⟨hx, hb, hml, hown, hts, hr, hlk, hK, had, hSt⟩ := id C
  intro H locs ls hl hP hS
  unfold fX10_within_s10 at hf
  refine lv_iconst (v := 1) hx hb dX10_within_10 (by decide) ?_
  refine lv_goto (tgt := 15) hx hb dX10_within_11 (by decide) ?_
  exact wX10_within_s15 C n 1 st res hf H locs ls (lv_sub hl [] rfl) hP hS
def fX10_within_s5 (n : Nat)   (v0 : Int32) (v2 : Int32) (st : St) : Option (Int32 × St) := if v2 < v0 then fX10_within_s14 n st else fX10_within_s10 n st
set_option maxHeartbeats 4000000 in
set_option maxRecDepth 100000 in
theorem wX10_within_s5 (C : Cx p s m args meth c cX10_within 3 wsL_law RX10 (some .boolean) D G ad) (n : Nat)   (v0 : Int32) (v2 : Int32)   (st : St) (res : (Int32 × St))  (hf : fX10_within_s5 n   v0 v2 st = some res) : At p l e (rmK 0) s m args below meth c D G ad (MQI D G ad below args s res) 3 st [(0, .int v0), (2, .int v2)] 5 [] := by
  obtain ⟨hx, hb, hml, hown, hts, hr, hlk, hK, had, hSt⟩ := id C
  intro H locs ls hl hP hS
  unfold fX10_within_s5 at hf
  refine lv_iload_n hx hb dX10_within_5 rfl (lv_at hl 0 rfl) ?_
  refine lv_iload_n hx hb dX10_within_6 rfl (lv_at hl 1 rfl) ?_
  refine lv_icmp_gt (tgt := 14) hx hb dX10_within_7 (by decide) (fun q => ?_) (fun q => ?_)
  · exact wX10_within_s14 C n st res (it hf q) H locs ls (lv_sub hl [] rfl) hP hS
  · exact wX10_within_s10 C n st res (ie hf q) H locs ls (lv_sub hl [] rfl) hP hS
def fX10_within_s0 (n : Nat)   (v0 : Int32) (v1 : Int32) (v2 : Int32) (st : St) : Option (Int32 × St) := if v0 < v1 then fX10_within_s14 n st else fX10_within_s5 n v0 v2 st
set_option maxHeartbeats 4000000 in
set_option maxRecDepth 100000 in
theorem wX10_within_s0 (C : Cx p s m args meth c cX10_within 3 wsL_law RX10 (some .boolean) D G ad) (n : Nat)   (v0 : Int32) (v1 : Int32) (v2 : Int32)   (st : St) (res : (Int32 × St))  (hf : fX10_within_s0 n   v0 v1 v2 st = some res) : At p l e (rmK 0) s m args below meth c D G ad (MQI D G ad below args s res) 3 st [(0, .int v0), (1, .int v1), (2, .int v2)] 0 [] := by
  obtain ⟨hx, hb, hml, hown, hts, hr, hlk, hK, had, hSt⟩ := id C
  intro H locs ls hl hP hS
  unfold fX10_within_s0 at hf
  refine lv_iload_n hx hb dX10_within_0 rfl (lv_at hl 0 rfl) ?_
  refine lv_iload_n hx hb dX10_within_1 rfl (lv_at hl 1 rfl) ?_
  refine lv_icmp_lt (tgt := 14) hx hb dX10_within_2 (by decide) (fun q => ?_) (fun q => ?_)
  · exact wX10_within_s14 C n st res (it hf q) H locs ls (lv_sub hl [] rfl) hP hS
  · exact wX10_within_s5 C n v0 v2 st res (ie hf q) H locs ls (lv_sub hl [0, 2] rfl) hP hS
def fX10_within (n : Nat)  (a0 : Int32) (a1 : Int32) (a2 : Int32) (st : St) : Option (Int32 × St) := fX10_within_s0 n a0 a1 a2 st
theorem okX10_within : okY yX10_within RX10 3 := by unfold okY; decide +kernel
end
set_option maxRecDepth 100000 in
theorem kX10_within (l : Launch) (D : va_G) (G : G3) (ad : Nat → Nat) (had : Adr ad) (n : Nat)   (a0 : Int32) (a1 : Int32) (a2 : Int32) (st : St) (res : (Int32 × St)) (hf : fX10_within n  a0 a1 a2 st = some res) {sz : Nat} : CtI l yX10_within (wsU yX10_within cX10_within 3 (some .boolean)) (rmK 0) D G ad sz [.int a0, .int a1, .int a2] st res := by
  refine Met.ofW (cc := cX10_within) (maxL := 3) (ret := (some .boolean)) (by decide) rfl ?_
  intro p e s m args below meth c s₁ B hml hv
  obtain ⟨rfl, hsz, hP, hK, hSt⟩ := hv
  have hts := atoms_spec (ws := wsU yX10_within cX10_within 3 (some .boolean)) B.pre
  have C : Cx p s m _ meth c cX10_within 3 wsL_law RX10 (some .boolean) D G ad := ⟨B.exec, B.bytes, hml, findClass_of_methodNamed B.named, fun w h => hts w (List.mem_cons_of_mem _ h), B.returns, B.notSynchronized, hK, had, hSt⟩
  subst hsz
  have hl := lv_entry ([.int a0, .int a1, .int a2]) (n := 3) (Nat.le_of_ble_eq_true rfl)
  rw [lg_entry_eq]
  generalize (lg_sl ([.int a0, .int a1, .int a2]) ++ List.replicate (3 - (lg_sl ([.int a0, .int a1, .int a2])).length) Slot.unset).toArray = ls at hl ⊢
  exact wX10_within_s0 C n  a0 a1 a2   st res hf s.heap [] ls (lv_sub hl [0, 1, 2] rfl) hP va_S.rf
section
variable {p : Program} {l : Launch} {e : Env} {s : State} {m : MethodId} {args : Array Value} {below : List Frame} {meth : Method} {c : Code} {D : va_G} {G : G3} {ad : Nat → Nat}
def fX3_understand_s112 (n : Nat)   (k0 : Int32) (st : St) : Option (Int32 × St) := if zb k0 = true then (some (k0, st)) else none
set_option maxHeartbeats 4000000 in
set_option maxRecDepth 100000 in
theorem wX3_understand_s112 (C : Cx p s m args meth c cX3_understand 3 wsL_law RX3 (some .boolean) D G ad) (n : Nat)   (k0 : Int32)   (st : St) (res : (Int32 × St))  (hf : fX3_understand_s112 n   k0 st = some res) : At p l e (rmK 1) s m args below meth c D G ad (MQI D G ad below args s res) 3 st [] 112 [.int k0] := by
  obtain ⟨hx, hb, hml, hown, hts, hr, hlk, hK, had, hSt⟩ := id C
  intro H locs ls hl hP hS
  unfold fX3_understand_s112 at hf
  obtain ⟨gz, hf⟩ := gd hf
  exact g_zret hx hb hr hlk hP hS (zb_of gz) dX3_understand_112 hf
def fX3_understand_s111 (n : Nat)    (st : St) : Option (Int32 × St) := fX3_understand_s112 n 0 st
set_option maxHeartbeats 4000000 in
set_option maxRecDepth 100000 in
theorem wX3_understand_s111 (C : Cx p s m args meth c cX3_understand 3 wsL_law RX3 (some .boolean) D G ad) (n : Nat)      (st : St) (res : (Int32 × St))  (hf : fX3_understand_s111 n    st = some res) : At p l e (rmK 1) s m args below meth c D G ad (MQI D G ad below args s res) 3 st [] 111 [] := by
  obtain ⟨hx, hb, hml, hown, hts, hr, hlk, hK, had, hSt⟩ := id C
  intro H locs ls hl hP hS
  unfold fX3_understand_s111 at hf
  refine lv_iconst (v := 0) hx hb dX3_understand_111 (by decide) ?_
  exact wX3_understand_s112 C n 0 st res hf H locs ls (lv_sub hl [] rfl) hP hS
def fX3_understand_s107 (n : Nat)    (st : St) : Option (Int32 × St) := fX3_understand_s112 n 1 st
set_option maxHeartbeats 4000000 in
set_option maxRecDepth 100000 in
theorem wX3_understand_s107 (C : Cx p s m args meth c cX3_understand 3 wsL_law RX3 (some .boolean) D G ad) (n : Nat)      (st : St) (res : (Int32 × St))  (hf : fX3_understand_s107 n    st = some res) : At p l e (rmK 1) s m args below meth c D G ad (MQI D G ad below args s res) 3 st [] 107 [] := by
  obtain ⟨hx, hb, hml, hown, hts, hr, hlk, hK, had, hSt⟩ := id C
  intro H locs ls hl hP hS
  unfold fX3_understand_s107 at hf
  refine lv_iconst (v := 1) hx hb dX3_understand_107 (by decide) ?_
  refine lv_goto (tgt := 112) hx hb dX3_understand_108 (by decide) ?_
  exact wX3_understand_s112 C n 1 st res hf H locs ls (lv_sub hl [] rfl) hP hS
def fX3_understand_s104 (n : Nat)   (k0 : Int32) (st : St) : Option (Int32 × St) := if k0 = 0 then fX3_understand_s111 n st else fX3_understand_s107 n st
set_option maxHeartbeats 4000000 in
set_option maxRecDepth 100000 in
theorem wX3_understand_s104 (C : Cx p s m args meth c cX3_understand 3 wsL_law RX3 (some .boolean) D G ad) (n : Nat)   (k0 : Int32)   (st : St) (res : (Int32 × St))  (hf : fX3_understand_s104 n   k0 st = some res) : At p l e (rmK 1) s m args below meth c D G ad (MQI D G ad below args s res) 3 st [] 104 [.int k0] := by
  obtain ⟨hx, hb, hml, hown, hts, hr, hlk, hK, had, hSt⟩ := id C
  intro H locs ls hl hP hS
  unfold fX3_understand_s104 at hf
  refine lv_if_eq (tgt := 111) hx hb dX3_understand_104 (by decide) (fun q => ?_) (fun q => ?_)
  · exact wX3_understand_s111 C n st res (it hf q) H locs ls (lv_sub hl [] rfl) hP hS
  · exact wX3_understand_s107 C n st res (ie hf q) H locs ls (lv_sub hl [] rfl) hP hS
def fX3_understand_s94 (n : Nat)    (st : St) : Option (Int32 × St) := (fX10_within n (st.1 37 9) 1 99 st).bind (fun q => fX3_understand_s104 n q.1 q.2)
set_option maxHeartbeats 4000000 in
set_option maxRecDepth 100000 in
theorem wX3_understand_s94 (C : Cx p s m args meth c cX3_understand 3 wsL_law RX3 (some .boolean) D G ad) (n : Nat)      (st : St) (res : (Int32 × St))  (hf : fX3_understand_s94 n    st = some res) : At p l e (rmK 1) s m args below meth c D G ad (MQI D G ad below args s res) 3 st [(0, .ref (ad 37))] 94 [] := by
  obtain ⟨hx, hb, hml, hown, hts, hr, hlk, hK, had, hSt⟩ := id C
  intro H locs ls hl hP hS
  unfold fX3_understand_s94 at hf
  refine lv_aload_n hx hb dX3_understand_94 rfl (lv_at hl 0 rfl) ?_
  refine g_getI hx hb hts inlX3 hown hK hP 37 ct_37 rfl 9 (by decide) (hts _ wm_41_17) rfl dX3_understand_95 ?_
  refine lv_iconst (v := 1) hx hb dX3_understand_98 (by decide) ?_
  refine lv_bipush (v := 99) hx hb dX3_understand_99 (by decide) ?_
  obtain ⟨q, hq, hf⟩ := bd hf
  refine gcN_i (k := 0) (As := [.int (st.1 37 9), .int 1, .int 99]) (rest := []) hx hb hml hown hts hK hSt hP hS hl.1 (goodU wm_9_19) wm_9_18 wm_1_2 hK.2.2 okX10_within (Nat.le_of_ble_eq_true rfl) (Nat.le_of_ble_eq_true rfl) rfl rfl (Nat.le_of_ble_eq_true rfl) dX3_understand_101 (kX10_within l D G ad had n  (st.1 37 9) 1 99 st q hq) (fun H locs hP hS => ?_)
  exact wX3_understand_s104 C n q.1 q.2 res hf H locs ls (lv_sub hl [] rfl) hP hS
def fX3_understand_s91 (n : Nat)   (k0 : Int32) (st : St) : Option (Int32 × St) := if k0 = 0 then fX3_understand_s111 n st else fX3_understand_s94 n st
set_option maxHeartbeats 4000000 in
set_option maxRecDepth 100000 in
theorem wX3_understand_s91 (C : Cx p s m args meth c cX3_understand 3 wsL_law RX3 (some .boolean) D G ad) (n : Nat)   (k0 : Int32)   (st : St) (res : (Int32 × St))  (hf : fX3_understand_s91 n   k0 st = some res) : At p l e (rmK 1) s m args below meth c D G ad (MQI D G ad below args s res) 3 st [(0, .ref (ad 37))] 91 [.int k0] := by
  obtain ⟨hx, hb, hml, hown, hts, hr, hlk, hK, had, hSt⟩ := id C
  intro H locs ls hl hP hS
  unfold fX3_understand_s91 at hf
  refine lv_if_eq (tgt := 111) hx hb dX3_understand_91 (by decide) (fun q => ?_) (fun q => ?_)
  · exact wX3_understand_s111 C n st res (it hf q) H locs ls (lv_sub hl [] rfl) hP hS
  · exact wX3_understand_s94 C n st res (ie hf q) H locs ls (lv_sub hl [0] rfl) hP hS
def fX3_understand_s81 (n : Nat)    (st : St) : Option (Int32 × St) := (fX10_within n (st.1 37 8) 1 9 st).bind (fun q => fX3_understand_s91 n q.1 q.2)
set_option maxHeartbeats 4000000 in
set_option maxRecDepth 100000 in
theorem wX3_understand_s81 (C : Cx p s m args meth c cX3_understand 3 wsL_law RX3 (some .boolean) D G ad) (n : Nat)      (st : St) (res : (Int32 × St))  (hf : fX3_understand_s81 n    st = some res) : At p l e (rmK 1) s m args below meth c D G ad (MQI D G ad below args s res) 3 st [(0, .ref (ad 37))] 81 [] := by
  obtain ⟨hx, hb, hml, hown, hts, hr, hlk, hK, had, hSt⟩ := id C
  intro H locs ls hl hP hS
  unfold fX3_understand_s81 at hf
  refine lv_aload_n hx hb dX3_understand_81 rfl (lv_at hl 0 rfl) ?_
  refine g_getI hx hb hts inlX3 hown hK hP 37 ct_37 rfl 8 (by decide) (hts _ wm_41_16) rfl dX3_understand_82 ?_
  refine lv_iconst (v := 1) hx hb dX3_understand_85 (by decide) ?_
  refine lv_bipush (v := 9) hx hb dX3_understand_86 (by decide) ?_
  obtain ⟨q, hq, hf⟩ := bd hf
  refine gcN_i (k := 0) (As := [.int (st.1 37 8), .int 1, .int 9]) (rest := []) hx hb hml hown hts hK hSt hP hS hl.1 (goodU wm_9_19) wm_9_18 wm_1_2 hK.2.2 okX10_within (Nat.le_of_ble_eq_true rfl) (Nat.le_of_ble_eq_true rfl) rfl rfl (Nat.le_of_ble_eq_true rfl) dX3_understand_88 (kX10_within l D G ad had n  (st.1 37 8) 1 9 st q hq) (fun H locs hP hS => ?_)
  exact wX3_understand_s91 C n q.1 q.2 res hf H locs ls (lv_sub hl [0] rfl) hP hS
def fX3_understand_s78 (n : Nat)   (k0 : Int32) (st : St) : Option (Int32 × St) := if k0 = 0 then fX3_understand_s111 n st else fX3_understand_s81 n st
set_option maxHeartbeats 4000000 in
set_option maxRecDepth 100000 in
theorem wX3_understand_s78 (C : Cx p s m args meth c cX3_understand 3 wsL_law RX3 (some .boolean) D G ad) (n : Nat)   (k0 : Int32)   (st : St) (res : (Int32 × St))  (hf : fX3_understand_s78 n   k0 st = some res) : At p l e (rmK 1) s m args below meth c D G ad (MQI D G ad below args s res) 3 st [(0, .ref (ad 37))] 78 [.int k0] := by
  obtain ⟨hx, hb, hml, hown, hts, hr, hlk, hK, had, hSt⟩ := id C
  intro H locs ls hl hP hS
  unfold fX3_understand_s78 at hf
  refine lv_if_eq (tgt := 111) hx hb dX3_understand_78 (by decide) (fun q => ?_) (fun q => ?_)
  · exact wX3_understand_s111 C n st res (it hf q) H locs ls (lv_sub hl [] rfl) hP hS
  · exact wX3_understand_s81 C n st res (ie hf q) H locs ls (lv_sub hl [0] rfl) hP hS
def fX3_understand_s68 (n : Nat)    (st : St) : Option (Int32 × St) := (fX10_within n (st.1 37 7) 1 9 st).bind (fun q => fX3_understand_s78 n q.1 q.2)
set_option maxHeartbeats 4000000 in
set_option maxRecDepth 100000 in
theorem wX3_understand_s68 (C : Cx p s m args meth c cX3_understand 3 wsL_law RX3 (some .boolean) D G ad) (n : Nat)      (st : St) (res : (Int32 × St))  (hf : fX3_understand_s68 n    st = some res) : At p l e (rmK 1) s m args below meth c D G ad (MQI D G ad below args s res) 3 st [(0, .ref (ad 37))] 68 [] := by
  obtain ⟨hx, hb, hml, hown, hts, hr, hlk, hK, had, hSt⟩ := id C
  intro H locs ls hl hP hS
  unfold fX3_understand_s68 at hf
  refine lv_aload_n hx hb dX3_understand_68 rfl (lv_at hl 0 rfl) ?_
  refine g_getI hx hb hts inlX3 hown hK hP 37 ct_37 rfl 7 (by decide) (hts _ wm_41_15) rfl dX3_understand_69 ?_
  refine lv_iconst (v := 1) hx hb dX3_understand_72 (by decide) ?_
  refine lv_bipush (v := 9) hx hb dX3_understand_73 (by decide) ?_
  obtain ⟨q, hq, hf⟩ := bd hf
  refine gcN_i (k := 0) (As := [.int (st.1 37 7), .int 1, .int 9]) (rest := []) hx hb hml hown hts hK hSt hP hS hl.1 (goodU wm_9_19) wm_9_18 wm_1_2 hK.2.2 okX10_within (Nat.le_of_ble_eq_true rfl) (Nat.le_of_ble_eq_true rfl) rfl rfl (Nat.le_of_ble_eq_true rfl) dX3_understand_75 (kX10_within l D G ad had n  (st.1 37 7) 1 9 st q hq) (fun H locs hP hS => ?_)
  exact wX3_understand_s78 C n q.1 q.2 res hf H locs ls (lv_sub hl [0] rfl) hP hS
def fX3_understand_s65 (n : Nat)   (k0 : Int32) (st : St) : Option (Int32 × St) := if k0 = 0 then fX3_understand_s111 n st else fX3_understand_s68 n st
set_option maxHeartbeats 4000000 in
set_option maxRecDepth 100000 in
theorem wX3_understand_s65 (C : Cx p s m args meth c cX3_understand 3 wsL_law RX3 (some .boolean) D G ad) (n : Nat)   (k0 : Int32)   (st : St) (res : (Int32 × St))  (hf : fX3_understand_s65 n   k0 st = some res) : At p l e (rmK 1) s m args below meth c D G ad (MQI D G ad below args s res) 3 st [(0, .ref (ad 37))] 65 [.int k0] := by
  obtain ⟨hx, hb, hml, hown, hts, hr, hlk, hK, had, hSt⟩ := id C
  intro H locs ls hl hP hS
  unfold fX3_understand_s65 at hf
  refine lv_if_eq (tgt := 111) hx hb dX3_understand_65 (by decide) (fun q => ?_) (fun q => ?_)
  · exact wX3_understand_s111 C n st res (it hf q) H locs ls (lv_sub hl [] rfl) hP hS
  · exact wX3_understand_s68 C n st res (ie hf q) H locs ls (lv_sub hl [0] rfl) hP hS
def fX3_understand_s56 (n : Nat)    (st : St) : Option (Int32 × St) := (fX10_within n (st.1 37 6) 1 3 st).bind (fun q => fX3_understand_s65 n q.1 q.2)
set_option maxHeartbeats 4000000 in
set_option maxRecDepth 100000 in
theorem wX3_understand_s56 (C : Cx p s m args meth c cX3_understand 3 wsL_law RX3 (some .boolean) D G ad) (n : Nat)      (st : St) (res : (Int32 × St))  (hf : fX3_understand_s56 n    st = some res) : At p l e (rmK 1) s m args below meth c D G ad (MQI D G ad below args s res) 3 st [(0, .ref (ad 37))] 56 [] := by
  obtain ⟨hx, hb, hml, hown, hts, hr, hlk, hK, had, hSt⟩ := id C
  intro H locs ls hl hP hS
  unfold fX3_understand_s56 at hf
  refine lv_aload_n hx hb dX3_understand_56 rfl (lv_at hl 0 rfl) ?_
  refine g_getI hx hb hts inlX3 hown hK hP 37 ct_37 rfl 6 (by decide) (hts _ wm_41_14) rfl dX3_understand_57 ?_
  refine lv_iconst (v := 1) hx hb dX3_understand_60 (by decide) ?_
  refine lv_iconst (v := 3) hx hb dX3_understand_61 (by decide) ?_
  obtain ⟨q, hq, hf⟩ := bd hf
  refine gcN_i (k := 0) (As := [.int (st.1 37 6), .int 1, .int 3]) (rest := []) hx hb hml hown hts hK hSt hP hS hl.1 (goodU wm_9_19) wm_9_18 wm_1_2 hK.2.2 okX10_within (Nat.le_of_ble_eq_true rfl) (Nat.le_of_ble_eq_true rfl) rfl rfl (Nat.le_of_ble_eq_true rfl) dX3_understand_62 (kX10_within l D G ad had n  (st.1 37 6) 1 3 st q hq) (fun H locs hP hS => ?_)
  exact wX3_understand_s65 C n q.1 q.2 res hf H locs ls (lv_sub hl [0] rfl) hP hS
def fX3_understand_s53 (n : Nat)   (k0 : Int32) (st : St) : Option (Int32 × St) := if k0 = 0 then fX3_understand_s111 n st else fX3_understand_s56 n st
set_option maxHeartbeats 4000000 in
set_option maxRecDepth 100000 in
theorem wX3_understand_s53 (C : Cx p s m args meth c cX3_understand 3 wsL_law RX3 (some .boolean) D G ad) (n : Nat)   (k0 : Int32)   (st : St) (res : (Int32 × St))  (hf : fX3_understand_s53 n   k0 st = some res) : At p l e (rmK 1) s m args below meth c D G ad (MQI D G ad below args s res) 3 st [(0, .ref (ad 37))] 53 [.int k0] := by
  obtain ⟨hx, hb, hml, hown, hts, hr, hlk, hK, had, hSt⟩ := id C
  intro H locs ls hl hP hS
  unfold fX3_understand_s53 at hf
  refine lv_if_eq (tgt := 111) hx hb dX3_understand_53 (by decide) (fun q => ?_) (fun q => ?_)
  · exact wX3_understand_s111 C n st res (it hf q) H locs ls (lv_sub hl [] rfl) hP hS
  · exact wX3_understand_s56 C n st res (ie hf q) H locs ls (lv_sub hl [0] rfl) hP hS
def fX3_understand_s44 (n : Nat)    (st : St) : Option (Int32 × St) := (fX10_within n (st.1 37 5) 1 3 st).bind (fun q => fX3_understand_s53 n q.1 q.2)
set_option maxHeartbeats 4000000 in
set_option maxRecDepth 100000 in
theorem wX3_understand_s44 (C : Cx p s m args meth c cX3_understand 3 wsL_law RX3 (some .boolean) D G ad) (n : Nat)      (st : St) (res : (Int32 × St))  (hf : fX3_understand_s44 n    st = some res) : At p l e (rmK 1) s m args below meth c D G ad (MQI D G ad below args s res) 3 st [(0, .ref (ad 37))] 44 [] := by
  obtain ⟨hx, hb, hml, hown, hts, hr, hlk, hK, had, hSt⟩ := id C
  intro H locs ls hl hP hS
  unfold fX3_understand_s44 at hf
  refine lv_aload_n hx hb dX3_understand_44 rfl (lv_at hl 0 rfl) ?_
  refine g_getI hx hb hts inlX3 hown hK hP 37 ct_37 rfl 5 (by decide) (hts _ wm_41_13) rfl dX3_understand_45 ?_
  refine lv_iconst (v := 1) hx hb dX3_understand_48 (by decide) ?_
  refine lv_iconst (v := 3) hx hb dX3_understand_49 (by decide) ?_
  obtain ⟨q, hq, hf⟩ := bd hf
  refine gcN_i (k := 0) (As := [.int (st.1 37 5), .int 1, .int 3]) (rest := []) hx hb hml hown hts hK hSt hP hS hl.1 (goodU wm_9_19) wm_9_18 wm_1_2 hK.2.2 okX10_within (Nat.le_of_ble_eq_true rfl) (Nat.le_of_ble_eq_true rfl) rfl rfl (Nat.le_of_ble_eq_true rfl) dX3_understand_50 (kX10_within l D G ad had n  (st.1 37 5) 1 3 st q hq) (fun H locs hP hS => ?_)
  exact wX3_understand_s53 C n q.1 q.2 res hf H locs ls (lv_sub hl [0] rfl) hP hS
def fX3_understand_s36 (n : Nat)   (v2 : Int32) (st : St) : Option (Int32 × St) := fX3_understand_s44 n (setI st 37 9 (v2 - v2 / 100 * 100))
set_option maxHeartbeats 4000000 in
set_option maxRecDepth 100000 in
theorem wX3_understand_s36 (C : Cx p s m args meth c cX3_understand 3 wsL_law RX3 (some .boolean) D G ad) (n : Nat)   (v2 : Int32)   (st : St) (res : (Int32 × St))  (hf : fX3_understand_s36 n   v2 st = some res) : At p l e (rmK 1) s m args below meth c D G ad (MQI D G ad below args s res) 3 st [(0, .ref (ad 37)), (2, .int v2)] 36 [] := by
  obtain ⟨hx, hb, hml, hown, hts, hr, hlk, hK, had, hSt⟩ := id C
  intro H locs ls hl hP hS
  unfold fX3_understand_s36 at hf
  refine lv_aload_n hx hb dX3_understand_36 rfl (lv_at hl 0 rfl) ?_
  refine lv_iload_n hx hb dX3_understand_37 rfl (lv_at hl 1 rfl) ?_
  refine lv_bipush (v := 100) hx hb dX3_understand_38 (by decide) ?_
  refine lv_irem hx hb dX3_understand_40 (by decide) ?_
  refine g_putI hx hb hts inlX3 tyX3_ok nmX3 hown hK had hP hS 37 ct_37 rfl 9 (by decide) (hts _ wm_41_17) rfl rfl rfl rfl rfl dX3_understand_41 (fun H locs hP hS => ?_)
  exact wX3_understand_s44 C n (setI st 37 9 (v2 - v2 / 100 * 100)) res hf H locs ls (lv_sub hl [0] rfl) hP hS
def fX3_understand_s25 (n : Nat)   (v2 : Int32) (st : St) : Option (Int32 × St) := fX3_understand_s36 n v2 (setI st 37 8 ((v2 / 100) - (v2 / 100) / 10 * 10))
set_option maxHeartbeats 4000000 in
set_option maxRecDepth 100000 in
theorem wX3_understand_s25 (C : Cx p s m args meth c cX3_understand 3 wsL_law RX3 (some .boolean) D G ad) (n : Nat)   (v2 : Int32)   (st : St) (res : (Int32 × St))  (hf : fX3_understand_s25 n   v2 st = some res) : At p l e (rmK 1) s m args below meth c D G ad (MQI D G ad below args s res) 3 st [(0, .ref (ad 37)), (2, .int v2)] 25 [] := by
  obtain ⟨hx, hb, hml, hown, hts, hr, hlk, hK, had, hSt⟩ := id C
  intro H locs ls hl hP hS
  unfold fX3_understand_s25 at hf
  refine lv_aload_n hx hb dX3_understand_25 rfl (lv_at hl 0 rfl) ?_
  refine lv_iload_n hx hb dX3_understand_26 rfl (lv_at hl 1 rfl) ?_
  refine lv_bipush (v := 100) hx hb dX3_understand_27 (by decide) ?_
  refine lv_idiv hx hb dX3_understand_29 (by decide) ?_
  refine lv_bipush (v := 10) hx hb dX3_understand_30 (by decide) ?_
  refine lv_irem hx hb dX3_understand_32 (by decide) ?_
  refine g_putI hx hb hts inlX3 tyX3_ok nmX3 hown hK had hP hS 37 ct_37 rfl 8 (by decide) (hts _ wm_41_16) rfl rfl rfl rfl rfl dX3_understand_33 (fun H locs hP hS => ?_)
  exact wX3_understand_s36 C n v2 (setI st 37 8 ((v2 / 100) - (v2 / 100) / 10 * 10)) res hf H locs ls (lv_sub hl [0, 1] rfl) hP hS
def fX3_understand_s16 (n : Nat)   (v2 : Int32) (st : St) : Option (Int32 × St) := fX3_understand_s25 n v2 (setI st 37 7 (v2 / 1000))
set_option maxHeartbeats 4000000 in
set_option maxRecDepth 100000 in
theorem wX3_understand_s16 (C : Cx p s m args meth c cX3_understand 3 wsL_law RX3 (some .boolean) D G ad) (n : Nat)   (v2 : Int32)   (st : St) (res : (Int32 × St))  (hf : fX3_understand_s16 n   v2 st = some res) : At p l e (rmK 1) s m args below meth c D G ad (MQI D G ad below args s res) 3 st [(0, .ref (ad 37)), (2, .int v2)] 16 [] := by
  obtain ⟨hx, hb, hml, hown, hts, hr, hlk, hK, had, hSt⟩ := id C
  intro H locs ls hl hP hS
  unfold fX3_understand_s16 at hf
  refine lv_aload_n hx hb dX3_understand_16 rfl (lv_at hl 0 rfl) ?_
  refine lv_iload_n hx hb dX3_understand_17 rfl (lv_at hl 1 rfl) ?_
  refine lv_sipush (v := 1000) hx hb dX3_understand_18 (by decide) ?_
  refine lv_idiv hx hb dX3_understand_21 (by decide) ?_
  refine g_putI hx hb hts inlX3 tyX3_ok nmX3 hown hK had hP hS 37 ct_37 rfl 7 (by decide) (hts _ wm_41_15) rfl rfl rfl rfl rfl dX3_understand_22 (fun H locs hP hS => ?_)
  exact wX3_understand_s25 C n v2 (setI st 37 7 (v2 / 1000)) res hf H locs ls (lv_sub hl [0, 1] rfl) hP hS
def fX3_understand_s8 (n : Nat)   (v1 : Int32) (v2 : Int32) (st : St) : Option (Int32 × St) := fX3_understand_s16 n v2 (setI st 37 6 (v1 - v1 / 10 * 10))
set_option maxHeartbeats 4000000 in
set_option maxRecDepth 100000 in
theorem wX3_understand_s8 (C : Cx p s m args meth c cX3_understand 3 wsL_law RX3 (some .boolean) D G ad) (n : Nat)   (v1 : Int32) (v2 : Int32)   (st : St) (res : (Int32 × St))  (hf : fX3_understand_s8 n   v1 v2 st = some res) : At p l e (rmK 1) s m args below meth c D G ad (MQI D G ad below args s res) 3 st [(0, .ref (ad 37)), (1, .int v1), (2, .int v2)] 8 [] := by
  obtain ⟨hx, hb, hml, hown, hts, hr, hlk, hK, had, hSt⟩ := id C
  intro H locs ls hl hP hS
  unfold fX3_understand_s8 at hf
  refine lv_aload_n hx hb dX3_understand_8 rfl (lv_at hl 0 rfl) ?_
  refine lv_iload_n hx hb dX3_understand_9 rfl (lv_at hl 1 rfl) ?_
  refine lv_bipush (v := 10) hx hb dX3_understand_10 (by decide) ?_
  refine lv_irem hx hb dX3_understand_12 (by decide) ?_
  refine g_putI hx hb hts inlX3 tyX3_ok nmX3 hown hK had hP hS 37 ct_37 rfl 6 (by decide) (hts _ wm_41_14) rfl rfl rfl rfl rfl dX3_understand_13 (fun H locs hP hS => ?_)
  exact wX3_understand_s16 C n v2 (setI st 37 6 (v1 - v1 / 10 * 10)) res hf H locs ls (lv_sub hl [0, 2] rfl) hP hS
def fX3_understand_s0 (n : Nat)   (v1 : Int32) (v2 : Int32) (st : St) : Option (Int32 × St) := fX3_understand_s8 n v1 v2 (setI st 37 5 (v1 / 10))
set_option maxHeartbeats 4000000 in
set_option maxRecDepth 100000 in
theorem wX3_understand_s0 (C : Cx p s m args meth c cX3_understand 3 wsL_law RX3 (some .boolean) D G ad) (n : Nat)   (v1 : Int32) (v2 : Int32)   (st : St) (res : (Int32 × St))  (hf : fX3_understand_s0 n   v1 v2 st = some res) : At p l e (rmK 1) s m args below meth c D G ad (MQI D G ad below args s res) 3 st [(0, .ref (ad 37)), (1, .int v1), (2, .int v2)] 0 [] := by
  obtain ⟨hx, hb, hml, hown, hts, hr, hlk, hK, had, hSt⟩ := id C
  intro H locs ls hl hP hS
  unfold fX3_understand_s0 at hf
  refine lv_aload_n hx hb dX3_understand_0 rfl (lv_at hl 0 rfl) ?_
  refine lv_iload_n hx hb dX3_understand_1 rfl (lv_at hl 1 rfl) ?_
  refine lv_bipush (v := 10) hx hb dX3_understand_2 (by decide) ?_
  refine lv_idiv hx hb dX3_understand_4 (by decide) ?_
  refine g_putI hx hb hts inlX3 tyX3_ok nmX3 hown hK had hP hS 37 ct_37 rfl 5 (by decide) (hts _ wm_41_13) rfl rfl rfl rfl rfl dX3_understand_5 (fun H locs hP hS => ?_)
  exact wX3_understand_s8 C n v1 v2 (setI st 37 5 (v1 / 10)) res hf H locs ls (lv_sub hl [0, 1, 2] rfl) hP hS
def fX3_understand (n : Nat)  (a1 : Int32) (a2 : Int32) (st : St) : Option (Int32 × St) := fX3_understand_s0 n a1 a2 st
theorem okX3_understand : okY yX3_understand RX3 2 := by unfold okY; decide +kernel
end
set_option maxRecDepth 100000 in
theorem kX3_understand (l : Launch) (D : va_G) (G : G3) (ad : Nat → Nat) (had : Adr ad) (n : Nat)   (a1 : Int32) (a2 : Int32) (st : St) (res : (Int32 × St)) (hf : fX3_understand n  a1 a2 st = some res) {sz : Nat} : CtI l yX3_understand (wsU yX3_understand cX3_understand 3 (some .boolean)) (rmK 1) D G ad sz [.ref (ad 37), .int a1, .int a2] st res := by
  refine Met.ofW (cc := cX3_understand) (maxL := 3) (ret := (some .boolean)) (by decide) rfl ?_
  intro p e s m args below meth c s₁ B hml hv
  obtain ⟨rfl, hsz, hP, hK, hSt⟩ := hv
  have hts := atoms_spec (ws := wsU yX3_understand cX3_understand 3 (some .boolean)) B.pre
  have C : Cx p s m _ meth c cX3_understand 3 wsL_law RX3 (some .boolean) D G ad := ⟨B.exec, B.bytes, hml, findClass_of_methodNamed B.named, fun w h => hts w (List.mem_cons_of_mem _ h), B.returns, B.notSynchronized, hK, had, hSt⟩
  subst hsz
  have hl := lv_entry ([.ref (ad 37), .int a1, .int a2]) (n := 3) (Nat.le_of_ble_eq_true rfl)
  rw [lg_entry_eq]
  generalize (lg_sl ([.ref (ad 37), .int a1, .int a2]) ++ List.replicate (3 - (lg_sl ([.ref (ad 37), .int a1, .int a2])).length) Slot.unset).toArray = ls at hl ⊢
  exact wX3_understand_s0 C n  a1 a2   st res hf s.heap [] ls (lv_sub hl [0, 1, 2] rfl) hP va_S.rf
section
variable {p : Program} {l : Launch} {e : Env} {s : State} {m : MethodId} {args : Array Value} {below : List Frame} {meth : Method} {c : Code} {D : va_G} {G : G3} {ad : Nat → Nat}
def fX3_addUp_s108 (n : Nat)  (L2 : Nat) (b2 : Nat)  (st : St) : Option (Unit × St) := some ((), st)
set_option maxHeartbeats 4000000 in
set_option maxRecDepth 100000 in
theorem wX3_addUp_s108 (C : Cx p s m args meth c cX3_addUp 8 wsL_law RX3 none D G ad) (n : Nat)  (L2 : Nat) (b2 : Nat)  (ib2 : ctab[b2]? = some (.inr (L2, 1)))  (st : St) (res : (Unit × St))  (hf : fX3_addUp_s108 n  L2 b2  st = some res) : At p l e (rmK 0) s m args below meth c D G ad (MQV D G ad below args s res) 8 st [] 108 [] := by
  obtain ⟨hx, hb, hml, hown, hts, hr, hlk, hK, had, hSt⟩ := id C
  intro H locs ls hl hP hS
  unfold fX3_addUp_s108 at hf
  exact g_vret hx hb hr hlk hP hS dX3_addUp_108 hf
def fX3_addUp_s102 (n : Nat) (K28 : Int32 → Int32 → St → Option (Unit × St)) (L2 : Nat) (b2 : Nat) (v1 : Int32) (v3 : Int32) (st : St) : Option (Unit × St) := K28 v1 (v3 + 1) st
set_option maxHeartbeats 4000000 in
set_option maxRecDepth 100000 in
theorem wX3_addUp_s102 (C : Cx p s m args meth c cX3_addUp 8 wsL_law RX3 none D G ad) (n : Nat) (K28 : Int32 → Int32 → St → Option (Unit × St)) (L2 : Nat) (b2 : Nat) (v1 : Int32) (v3 : Int32) (ib2 : ctab[b2]? = some (.inr (L2, 1)))  (st : St) (res : (Unit × St)) (hK28 : ∀ (v1 : Int32) (v3 : Int32) (st : St), K28 v1 v3 st = some res → At p l e (rmK 0) s m args below meth c D G ad (MQV D G ad below args s res) 8 st [(0, .ref (ad 37)), (1, .int v1), (2, .ref (ad b2)), (3, .int v3)] 28 []) (hf : fX3_addUp_s102 n K28 L2 b2 v1 v3 st = some res) : At p l e (rmK 0) s m args below meth c D G ad (MQV D G ad below args s res) 8 st [(0, .ref (ad 37)), (1, .int v1), (2, .ref (ad b2)), (3, .int v3)] 102 [] := by
  obtain ⟨hx, hb, hml, hown, hts, hr, hlk, hK, had, hSt⟩ := id C
  intro H locs ls hl hP hS
  unfold fX3_addUp_s102 at hf
  refine lv_iinc (v := v3 + 1) (lv' := [(3, .int (v3 + 1)), (0, .ref (ad 37)), (1, .int v1), (2, .ref (ad b2))]) hx hb dX3_addUp_102 hl (k := 3) rfl rfl (by decide) rfl (fun ls hl => ?_)
  refine lv_goto (tgt := 28) hx hb dX3_addUp_105 (by decide) ?_
  exact hK28 v1 (v3 + 1)  st hf H locs ls (lv_sub hl [1, 2, 3, 0] rfl) hP hS
def fX3_addUp_s96 (n : Nat) (K28 : Int32 → Int32 → St → Option (Unit × St)) (K39 : Int32 → Int32 → Int32 → St → Option (Unit × St)) (L2 : Nat) (b2 : Nat) (v1 : Int32) (v3 : Int32) (v4 : Int32) (st : St) : Option (Unit × St) := K39 v1 v3 (v4 + (-1)) st
set_option maxHeartbeats 4000000 in
set_option maxRecDepth 100000 in
theorem wX3_addUp_s96 (C : Cx p s m args meth c cX3_addUp 8 wsL_law RX3 none D G ad) (n : Nat) (K28 : Int32 → Int32 → St → Option (Unit × St)) (K39 : Int32 → Int32 → Int32 → St → Option (Unit × St)) (L2 : Nat) (b2 : Nat) (v1 : Int32) (v3 : Int32) (v4 : Int32) (ib2 : ctab[b2]? = some (.inr (L2, 1)))  (st : St) (res : (Unit × St)) (hK28 : ∀ (v1 : Int32) (v3 : Int32) (st : St), K28 v1 v3 st = some res → At p l e (rmK 0) s m args below meth c D G ad (MQV D G ad below args s res) 8 st [(0, .ref (ad 37)), (1, .int v1), (2, .ref (ad b2)), (3, .int v3)] 28 []) (hK39 : ∀ (v1 : Int32) (v3 : Int32) (v4 : Int32) (st : St), K39 v1 v3 v4 st = some res → At p l e (rmK 0) s m args below meth c D G ad (MQV D G ad below args s res) 8 st [(0, .ref (ad 37)), (1, .int v1), (2, .ref (ad b2)), (3, .int v3), (4, .int v4)] 39 []) (hf : fX3_addUp_s96 n K28 K39 L2 b2 v1 v3 v4 st = some res) : At p l e (rmK 0) s m args below meth c D G ad (MQV D G ad below args s res) 8 st [(0, .ref (ad 37)), (1, .int v1), (2, .ref (ad b2)), (3, .int v3), (4, .int v4)] 96 [] := by
  obtain ⟨hx, hb, hml, hown, hts, hr, hlk, hK, had, hSt⟩ := id C
  intro H locs ls hl hP hS
  unfold fX3_addUp_s96 at hf
  refine lv_iinc (v := v4 + (-1)) (lv' := [(4, .int (v4 + (-1))), (0, .ref (ad 37)), (1, .int v1), (2, .ref (ad b2)), (3, .int v3)]) hx hb dX3_addUp_96 hl (k := 4) rfl rfl (by decide) rfl (fun ls hl => ?_)
  refine lv_goto (tgt := 39) hx hb dX3_addUp_99 (by decide) ?_
  exact hK39 v1 v3 (v4 + (-1))  st hf H locs ls (lv_sub hl [1, 2, 3, 4, 0] rfl) hP hS
def fX3_addUp_s90 (n : Nat) (K28 : Int32 → Int32 → St → Option (Unit × St)) (K39 : Int32 → Int32 → Int32 → St → Option (Unit × St)) (L2 : Nat) (b2 : Nat) (v1 : Int32) (v3 : Int32) (v4 : Int32) (v5 : Int64) (st : St) : Option (Unit × St) := if inb v4 L2 = true then (fX3_addUp_s96 n K28 K39 L2 b2 v1 v3 v4 (setJ st b2 v4.toNatClampNeg v5)) else none
set_option maxHeartbeats 4000000 in
set_option maxRecDepth 100000 in
theorem wX3_addUp_s90 (C : Cx p s m args meth c cX3_addUp 8 wsL_law RX3 none D G ad) (n : Nat) (K28 : Int32 → Int32 → St → Option (Unit × St)) (K39 : Int32 → Int32 → Int32 → St → Option (Unit × St)) (L2 : Nat) (b2 : Nat) (v1 : Int32) (v3 : Int32) (v4 : Int32) (v5 : Int64) (ib2 : ctab[b2]? = some (.inr (L2, 1)))  (st : St) (res : (Unit × St)) (hK28 : ∀ (v1 : Int32) (v3 : Int32) (st : St), K28 v1 v3 st = some res → At p l e (rmK 0) s m args below meth c D G ad (MQV D G ad below args s res) 8 st [(0, .ref (ad 37)), (1, .int v1), (2, .ref (ad b2)), (3, .int v3)] 28 []) (hK39 : ∀ (v1 : Int32) (v3 : Int32) (v4 : Int32) (st : St), K39 v1 v3 v4 st = some res → At p l e (rmK 0) s m args below meth c D G ad (MQV D G ad below args s res) 8 st [(0, .ref (ad 37)), (1, .int v1), (2, .ref (ad b2)), (3, .int v3), (4, .int v4)] 39 []) (hf : fX3_addUp_s90 n K28 K39 L2 b2 v1 v3 v4 v5 st = some res) : At p l e (rmK 0) s m args below meth c D G ad (MQV D G ad below args s res) 8 st [(0, .ref (ad 37)), (1, .int v1), (2, .ref (ad b2)), (3, .int v3), (4, .int v4), (5, .long v5)] 90 [] := by
  obtain ⟨hx, hb, hml, hown, hts, hr, hlk, hK, had, hSt⟩ := id C
  intro H locs ls hl hP hS
  unfold fX3_addUp_s90 at hf
  refine lv_aload_n hx hb dX3_addUp_90 rfl (lv_at hl 2 rfl) ?_
  refine lv_iload hx hb dX3_addUp_91 (lv_at hl 4 rfl) ?_
  refine lv_lload hx hb dX3_addUp_93 (lv_at hl 5 rfl) ?_
  obtain ⟨g1, hf⟩ := gd hf
  refine g_last hx hb hK had hP hS b2 ib2 g1 dX3_addUp_95 (fun H locs hP hS => ?_)
  exact wX3_addUp_s96 C n K28 K39 L2 b2 v1 v3 v4 ib2 (setJ st b2 v4.toNatClampNeg v5) res hK28 hK39 hf H locs ls (lv_sub hl [0, 1, 2, 3, 4] rfl) hP hS
def fX3_addUp_s63 (n : Nat) (K28 : Int32 → Int32 → St → Option (Unit × St)) (K39 : Int32 → Int32 → Int32 → St → Option (Unit × St)) (K50 : Int32 → Int32 → Int32 → Int64 → Int32 → St → Option (Unit × St)) (L2 : Nat) (b2 : Nat) (v1 : Int32) (v3 : Int32) (v4 : Int32) (v5 : Int64) (v7 : Int32) (st : St) : Option (Unit × St) := if inb v7 5 = true then (if inb (v4 - v7) L2 = true then (K50 v1 v3 v4 (v5 + (((st.1 38 v7.toNatClampNeg).toInt64) * (st.2 b2 (v4 - v7).toNatClampNeg))) (v7 + 1) st) else none) else none
set_option maxHeartbeats 4000000 in
set_option maxRecDepth 100000 in
theorem wX3_addUp_s63 (C : Cx p s m args meth c cX3_addUp 8 wsL_law RX3 none D G ad) (n : Nat) (K28 : Int32 → Int32 → St → Option (Unit × St)) (K39 : Int32 → Int32 → Int32 → St → Option (Unit × St)) (K50 : Int32 → Int32 → Int32 → Int64 → Int32 → St → Option (Unit × St)) (L2 : Nat) (b2 : Nat) (v1 : Int32) (v3 : Int32) (v4 : Int32) (v5 : Int64) (v7 : Int32) (ib2 : ctab[b2]? = some (.inr (L2, 1)))  (st : St) (res : (Unit × St)) (hK28 : ∀ (v1 : Int32) (v3 : Int32) (st : St), K28 v1 v3 st = some res → At p l e (rmK 0) s m args below meth c D G ad (MQV D G ad below args s res) 8 st [(0, .ref (ad 37)), (1, .int v1), (2, .ref (ad b2)), (3, .int v3)] 28 []) (hK39 : ∀ (v1 : Int32) (v3 : Int32) (v4 : Int32) (st : St), K39 v1 v3 v4 st = some res → At p l e (rmK 0) s m args below meth c D G ad (MQV D G ad below args s res) 8 st [(0, .ref (ad 37)), (1, .int v1), (2, .ref (ad b2)), (3, .int v3), (4, .int v4)] 39 []) (hK50 : ∀ (v1 : Int32) (v3 : Int32) (v4 : Int32) (v5 : Int64) (v7 : Int32) (st : St), K50 v1 v3 v4 v5 v7 st = some res → At p l e (rmK 0) s m args below meth c D G ad (MQV D G ad below args s res) 8 st [(0, .ref (ad 37)), (1, .int v1), (2, .ref (ad b2)), (3, .int v3), (4, .int v4), (5, .long v5), (7, .int v7)] 50 []) (hf : fX3_addUp_s63 n K28 K39 K50 L2 b2 v1 v3 v4 v5 v7 st = some res) : At p l e (rmK 0) s m args below meth c D G ad (MQV D G ad below args s res) 8 st [(0, .ref (ad 37)), (1, .int v1), (2, .ref (ad b2)), (3, .int v3), (4, .int v4), (5, .long v5), (7, .int v7)] 63 [] := by
  obtain ⟨hx, hb, hml, hown, hts, hr, hlk, hK, had, hSt⟩ := id C
  intro H locs ls hl hP hS
  unfold fX3_addUp_s63 at hf
  refine lv_lload hx hb dX3_addUp_63 (lv_at hl 5 rfl) ?_
  refine lv_aload_n hx hb dX3_addUp_65 rfl (lv_at hl 0 rfl) ?_
  refine g_getR hx hb hts inlX3 hown hK hP 37 ct_37 rfl 0 (by decide) (hts _ wm_5_22) rfl dX3_addUp_66 ?_
  refine lv_iload hx hb dX3_addUp_69 (lv_at hl 6 rfl) ?_
  obtain ⟨g1, hf⟩ := gd hf
  refine g_iald hx hb hK hP 38 ct_38 g1 dX3_addUp_71 ?_
  refine lv_i2l hx hb dX3_addUp_72 rfl ?_
  refine lv_aload_n hx hb dX3_addUp_73 rfl (lv_at hl 2 rfl) ?_
  refine lv_iload hx hb dX3_addUp_74 (lv_at hl 4 rfl) ?_
  refine lv_iload hx hb dX3_addUp_76 (lv_at hl 6 rfl) ?_
  refine lv_isub hx hb dX3_addUp_78 ?_
  obtain ⟨g2, hf⟩ := gd hf
  refine g_lald hx hb hK hP b2 ib2 g2 dX3_addUp_79 ?_
  refine lv_lmul hx hb dX3_addUp_80 ?_
  refine lv_ladd hx hb dX3_addUp_81 ?_
  refine lv_lstore (lv' := [(5, .long (v5 + (((st.1 38 v7.toNatClampNeg).toInt64) * (st.2 b2 (v4 - v7).toNatClampNeg)))), (0, .ref (ad 37)), (1, .int v1), (2, .ref (ad b2)), (3, .int v3), (4, .int v4), (7, .int v7)]) hx hb dX3_addUp_82 hl (by decide) rfl (fun ls hl => ?_)
  refine lv_iinc (v := v7 + 1) (lv' := [(7, .int (v7 + 1)), (5, .long (v5 + (((st.1 38 v7.toNatClampNeg).toInt64) * (st.2 b2 (v4 - v7).toNatClampNeg)))), (0, .ref (ad 37)), (1, .int v1), (2, .ref (ad b2)), (3, .int v3), (4, .int v4)]) hx hb dX3_addUp_84 hl (k := 6) rfl rfl (by decide) rfl (fun ls hl => ?_)
  refine lv_goto (tgt := 50) hx hb dX3_addUp_87 (by decide) ?_
  exact hK50 v1 v3 v4 (v5 + (((st.1 38 v7.toNatClampNeg).toInt64) * (st.2 b2 (v4 - v7).toNatClampNeg))) (v7 + 1)  st hf H locs ls (lv_sub hl [2, 3, 4, 5, 6, 1, 0] rfl) hP hS
def fX3_addUp_s56 (n : Nat) (K28 : Int32 → Int32 → St → Option (Unit × St)) (K39 : Int32 → Int32 → Int32 → St → Option (Unit × St)) (K50 : Int32 → Int32 → Int32 → Int64 → Int32 → St → Option (Unit × St)) (L2 : Nat) (b2 : Nat) (v1 : Int32) (v3 : Int32) (v4 : Int32) (v5 : Int64) (v7 : Int32) (st : St) : Option (Unit × St) := if v4 < v7 then fX3_addUp_s90 n K28 K39 L2 b2 v1 v3 v4 v5 st else fX3_addUp_s63 n K28 K39 K50 L2 b2 v1 v3 v4 v5 v7 st
set_option maxHeartbeats 4000000 in
set_option maxRecDepth 100000 in
theorem wX3_addUp_s56 (C : Cx p s m args meth c cX3_addUp 8 wsL_law RX3 none D G ad) (n : Nat) (K28 : Int32 → Int32 → St → Option (Unit × St)) (K39 : Int32 → Int32 → Int32 → St → Option (Unit × St)) (K50 : Int32 → Int32 → Int32 → Int64 → Int32 → St → Option (Unit × St)) (L2 : Nat) (b2 : Nat) (v1 : Int32) (v3 : Int32) (v4 : Int32) (v5 : Int64) (v7 : Int32) (ib2 : ctab[b2]? = some (.inr (L2, 1)))  (st : St) (res : (Unit × St)) (hK28 : ∀ (v1 : Int32) (v3 : Int32) (st : St), K28 v1 v3 st = some res → At p l e (rmK 0) s m args below meth c D G ad (MQV D G ad below args s res) 8 st [(0, .ref (ad 37)), (1, .int v1), (2, .ref (ad b2)), (3, .int v3)] 28 []) (hK39 : ∀ (v1 : Int32) (v3 : Int32) (v4 : Int32) (st : St), K39 v1 v3 v4 st = some res → At p l e (rmK 0) s m args below meth c D G ad (MQV D G ad below args s res) 8 st [(0, .ref (ad 37)), (1, .int v1), (2, .ref (ad b2)), (3, .int v3), (4, .int v4)] 39 []) (hK50 : ∀ (v1 : Int32) (v3 : Int32) (v4 : Int32) (v5 : Int64) (v7 : Int32) (st : St), K50 v1 v3 v4 v5 v7 st = some res → At p l e (rmK 0) s m args below meth c D G ad (MQV D G ad below args s res) 8 st [(0, .ref (ad 37)), (1, .int v1), (2, .ref (ad b2)), (3, .int v3), (4, .int v4), (5, .long v5), (7, .int v7)] 50 []) (hf : fX3_addUp_s56 n K28 K39 K50 L2 b2 v1 v3 v4 v5 v7 st = some res) : At p l e (rmK 0) s m args below meth c D G ad (MQV D G ad below args s res) 8 st [(0, .ref (ad 37)), (1, .int v1), (2, .ref (ad b2)), (3, .int v3), (4, .int v4), (5, .long v5), (7, .int v7)] 56 [] := by
  obtain ⟨hx, hb, hml, hown, hts, hr, hlk, hK, had, hSt⟩ := id C
  intro H locs ls hl hP hS
  unfold fX3_addUp_s56 at hf
  refine lv_iload hx hb dX3_addUp_56 (lv_at hl 6 rfl) ?_
  refine lv_iload hx hb dX3_addUp_58 (lv_at hl 4 rfl) ?_
  refine lv_icmp_gt (tgt := 90) hx hb dX3_addUp_60 (by decide) (fun q => ?_) (fun q => ?_)
  · exact wX3_addUp_s90 C n K28 K39 L2 b2 v1 v3 v4 v5 ib2 st res hK28 hK39 (it hf q) H locs ls (lv_sub hl [0, 1, 2, 3, 4, 5] rfl) hP hS
  · exact wX3_addUp_s63 C n K28 K39 K50 L2 b2 v1 v3 v4 v5 v7 ib2 st res hK28 hK39 hK50 (ie hf q) H locs ls (lv_sub hl [0, 1, 2, 3, 4, 5, 6] rfl) hP hS
def fX3_addUp_s50 (n : Nat) (K28 : Int32 → Int32 → St → Option (Unit × St)) (K39 : Int32 → Int32 → Int32 → St → Option (Unit × St)) (K50 : Int32 → Int32 → Int32 → Int64 → Int32 → St → Option (Unit × St)) (L2 : Nat) (b2 : Nat) (v1 : Int32) (v3 : Int32) (v4 : Int32) (v5 : Int64) (v7 : Int32) (st : St) : Option (Unit × St) := if 4 < v7 then fX3_addUp_s90 n K28 K39 L2 b2 v1 v3 v4 v5 st else fX3_addUp_s56 n K28 K39 K50 L2 b2 v1 v3 v4 v5 v7 st
set_option maxHeartbeats 4000000 in
set_option maxRecDepth 100000 in
theorem wX3_addUp_s50 (C : Cx p s m args meth c cX3_addUp 8 wsL_law RX3 none D G ad) (n : Nat) (K28 : Int32 → Int32 → St → Option (Unit × St)) (K39 : Int32 → Int32 → Int32 → St → Option (Unit × St)) (K50 : Int32 → Int32 → Int32 → Int64 → Int32 → St → Option (Unit × St)) (L2 : Nat) (b2 : Nat) (v1 : Int32) (v3 : Int32) (v4 : Int32) (v5 : Int64) (v7 : Int32) (ib2 : ctab[b2]? = some (.inr (L2, 1)))  (st : St) (res : (Unit × St)) (hK28 : ∀ (v1 : Int32) (v3 : Int32) (st : St), K28 v1 v3 st = some res → At p l e (rmK 0) s m args below meth c D G ad (MQV D G ad below args s res) 8 st [(0, .ref (ad 37)), (1, .int v1), (2, .ref (ad b2)), (3, .int v3)] 28 []) (hK39 : ∀ (v1 : Int32) (v3 : Int32) (v4 : Int32) (st : St), K39 v1 v3 v4 st = some res → At p l e (rmK 0) s m args below meth c D G ad (MQV D G ad below args s res) 8 st [(0, .ref (ad 37)), (1, .int v1), (2, .ref (ad b2)), (3, .int v3), (4, .int v4)] 39 []) (hK50 : ∀ (v1 : Int32) (v3 : Int32) (v4 : Int32) (v5 : Int64) (v7 : Int32) (st : St), K50 v1 v3 v4 v5 v7 st = some res → At p l e (rmK 0) s m args below meth c D G ad (MQV D G ad below args s res) 8 st [(0, .ref (ad 37)), (1, .int v1), (2, .ref (ad b2)), (3, .int v3), (4, .int v4), (5, .long v5), (7, .int v7)] 50 []) (hf : fX3_addUp_s50 n K28 K39 K50 L2 b2 v1 v3 v4 v5 v7 st = some res) : At p l e (rmK 0) s m args below meth c D G ad (MQV D G ad below args s res) 8 st [(0, .ref (ad 37)), (1, .int v1), (2, .ref (ad b2)), (3, .int v3), (4, .int v4), (5, .long v5), (7, .int v7)] 50 [] := by
  obtain ⟨hx, hb, hml, hown, hts, hr, hlk, hK, had, hSt⟩ := id C
  intro H locs ls hl hP hS
  unfold fX3_addUp_s50 at hf
  refine lv_iload hx hb dX3_addUp_50 (lv_at hl 6 rfl) ?_
  refine lv_iconst (v := 4) hx hb dX3_addUp_52 (by decide) ?_
  refine lv_icmp_gt (tgt := 90) hx hb dX3_addUp_53 (by decide) (fun q => ?_) (fun q => ?_)
  · exact wX3_addUp_s90 C n K28 K39 L2 b2 v1 v3 v4 v5 ib2 st res hK28 hK39 (it hf q) H locs ls (lv_sub hl [0, 1, 2, 3, 4, 5] rfl) hP hS
  · exact wX3_addUp_s56 C n K28 K39 K50 L2 b2 v1 v3 v4 v5 v7 ib2 st res hK28 hK39 hK50 (ie hf q) H locs ls (lv_sub hl [0, 1, 2, 3, 4, 5, 6] rfl) hP hS
def fX3_addUp_L50 (n : Nat) (K28 : Int32 → Int32 → St → Option (Unit × St)) (K39 : Int32 → Int32 → Int32 → St → Option (Unit × St)) (L2 : Nat) (b2 : Nat) : Nat → Int32 → Int32 → Int32 → Int64 → Int32 → St → Option (Unit × St)
  | 0, _, _, _, _, _, _ => none
  | k + 1, v1, v3, v4, v5, v7, st => fX3_addUp_s50 n K28 K39 (fX3_addUp_L50 n K28 K39 L2 b2 k) L2 b2 v1 v3 v4 v5 v7 st
theorem wX3_addUp_L50 (C : Cx p s m args meth c cX3_addUp 8 wsL_law RX3 none D G ad) (n : Nat) (K28 : Int32 → Int32 → St → Option (Unit × St)) (K39 : Int32 → Int32 → Int32 → St → Option (Unit × St)) (L2 : Nat) (b2 : Nat) (ib2 : ctab[b2]? = some (.inr (L2, 1))) (res : (Unit × St)) (hK28 : ∀ (v1 : Int32) (v3 : Int32) (st : St), K28 v1 v3 st = some res → At p l e (rmK 0) s m args below meth c D G ad (MQV D G ad below args s res) 8 st [(0, .ref (ad 37)), (1, .int v1), (2, .ref (ad b2)), (3, .int v3)] 28 []) (hK39 : ∀ (v1 : Int32) (v3 : Int32) (v4 : Int32) (st : St), K39 v1 v3 v4 st = some res → At p l e (rmK 0) s m args below meth c D G ad (MQV D G ad below args s res) 8 st [(0, .ref (ad 37)), (1, .int v1), (2, .ref (ad b2)), (3, .int v3), (4, .int v4)] 39 []) : ∀ (k : Nat) (v1 : Int32) (v3 : Int32) (v4 : Int32) (v5 : Int64) (v7 : Int32)  (st : St), fX3_addUp_L50 n K28 K39 L2 b2 k v1 v3 v4 v5 v7 st = some res → At p l e (rmK 0) s m args below meth c D G ad (MQV D G ad below args s res) 8 st [(0, .ref (ad 37)), (1, .int v1), (2, .ref (ad b2)), (3, .int v3), (4, .int v4), (5, .long v5), (7, .int v7)] 50 [] := by
  intro k
  induction k with
  | zero => intro v1 v3 v4 v5 v7  st h; exact absurd h (by intro q; cases q)
  | succ k ih => intro v1 v3 v4 v5 v7  st h; exact wX3_addUp_s50 C n K28 K39 (fX3_addUp_L50 n K28 K39 L2 b2 k) L2 b2 v1 v3 v4 v5 v7 ib2  st res hK28 hK39 ih h
def fX3_addUp_s44 (n : Nat) (K28 : Int32 → Int32 → St → Option (Unit × St)) (K39 : Int32 → Int32 → Int32 → St → Option (Unit × St)) (L2 : Nat) (b2 : Nat) (v1 : Int32) (v3 : Int32) (v4 : Int32) (st : St) : Option (Unit × St) := fX3_addUp_L50 n K28 K39 L2 b2 n v1 v3 v4 0 0 st
set_option maxHeartbeats 4000000 in
set_option maxRecDepth 100000 in
theorem wX3_addUp_s44 (C : Cx p s m args meth c cX3_addUp 8 wsL_law RX3 none D G ad) (n : Nat) (K28 : Int32 → Int32 → St → Option (Unit × St)) (K39 : Int32 → Int32 → Int32 → St → Option (Unit × St)) (L2 : Nat) (b2 : Nat) (v1 : Int32) (v3 : Int32) (v4 : Int32) (ib2 : ctab[b2]? = some (.inr (L2, 1)))  (st : St) (res : (Unit × St)) (hK28 : ∀ (v1 : Int32) (v3 : Int32) (st : St), K28 v1 v3 st = some res → At p l e (rmK 0) s m args below meth c D G ad (MQV D G ad below args s res) 8 st [(0, .ref (ad 37)), (1, .int v1), (2, .ref (ad b2)), (3, .int v3)] 28 []) (hK39 : ∀ (v1 : Int32) (v3 : Int32) (v4 : Int32) (st : St), K39 v1 v3 v4 st = some res → At p l e (rmK 0) s m args below meth c D G ad (MQV D G ad below args s res) 8 st [(0, .ref (ad 37)), (1, .int v1), (2, .ref (ad b2)), (3, .int v3), (4, .int v4)] 39 []) (hf : fX3_addUp_s44 n K28 K39 L2 b2 v1 v3 v4 st = some res) : At p l e (rmK 0) s m args below meth c D G ad (MQV D G ad below args s res) 8 st [(0, .ref (ad 37)), (1, .int v1), (2, .ref (ad b2)), (3, .int v3), (4, .int v4)] 44 [] := by
  obtain ⟨hx, hb, hml, hown, hts, hr, hlk, hK, had, hSt⟩ := id C
  intro H locs ls hl hP hS
  unfold fX3_addUp_s44 at hf
  refine lv_lconst (v := 0) hx hb dX3_addUp_44 (by decide) ?_
  refine lv_lstore (lv' := [(5, .long 0), (0, .ref (ad 37)), (1, .int v1), (2, .ref (ad b2)), (3, .int v3), (4, .int v4)]) hx hb dX3_addUp_45 hl (by decide) rfl (fun ls hl => ?_)
  refine lv_iconst (v := 0) hx hb dX3_addUp_47 (by decide) ?_
  refine lv_istore (lv' := [(7, .int 0), (5, .long 0), (0, .ref (ad 37)), (1, .int v1), (2, .ref (ad b2)), (3, .int v3), (4, .int v4)]) hx hb dX3_addUp_48 hl (by decide) rfl (fun ls hl => ?_)
  exact wX3_addUp_L50 C n K28 K39 L2 b2 ib2 res hK28 hK39 n v1 v3 v4 0 0 st hf H locs ls (lv_sub hl [2, 3, 4, 5, 6, 1, 0] rfl) hP hS
def fX3_addUp_s39 (n : Nat) (K28 : Int32 → Int32 → St → Option (Unit × St)) (K39 : Int32 → Int32 → Int32 → St → Option (Unit × St)) (L2 : Nat) (b2 : Nat) (v1 : Int32) (v3 : Int32) (v4 : Int32) (st : St) : Option (Unit × St) := if v4 < 0 then fX3_addUp_s102 n K28 L2 b2 v1 v3 st else fX3_addUp_s44 n K28 K39 L2 b2 v1 v3 v4 st
set_option maxHeartbeats 4000000 in
set_option maxRecDepth 100000 in
theorem wX3_addUp_s39 (C : Cx p s m args meth c cX3_addUp 8 wsL_law RX3 none D G ad) (n : Nat) (K28 : Int32 → Int32 → St → Option (Unit × St)) (K39 : Int32 → Int32 → Int32 → St → Option (Unit × St)) (L2 : Nat) (b2 : Nat) (v1 : Int32) (v3 : Int32) (v4 : Int32) (ib2 : ctab[b2]? = some (.inr (L2, 1)))  (st : St) (res : (Unit × St)) (hK28 : ∀ (v1 : Int32) (v3 : Int32) (st : St), K28 v1 v3 st = some res → At p l e (rmK 0) s m args below meth c D G ad (MQV D G ad below args s res) 8 st [(0, .ref (ad 37)), (1, .int v1), (2, .ref (ad b2)), (3, .int v3)] 28 []) (hK39 : ∀ (v1 : Int32) (v3 : Int32) (v4 : Int32) (st : St), K39 v1 v3 v4 st = some res → At p l e (rmK 0) s m args below meth c D G ad (MQV D G ad below args s res) 8 st [(0, .ref (ad 37)), (1, .int v1), (2, .ref (ad b2)), (3, .int v3), (4, .int v4)] 39 []) (hf : fX3_addUp_s39 n K28 K39 L2 b2 v1 v3 v4 st = some res) : At p l e (rmK 0) s m args below meth c D G ad (MQV D G ad below args s res) 8 st [(0, .ref (ad 37)), (1, .int v1), (2, .ref (ad b2)), (3, .int v3), (4, .int v4)] 39 [] := by
  obtain ⟨hx, hb, hml, hown, hts, hr, hlk, hK, had, hSt⟩ := id C
  intro H locs ls hl hP hS
  unfold fX3_addUp_s39 at hf
  refine lv_iload hx hb dX3_addUp_39 (lv_at hl 4 rfl) ?_
  refine lv_if_lt (tgt := 102) hx hb dX3_addUp_41 (by decide) (fun q => ?_) (fun q => ?_)
  · exact wX3_addUp_s102 C n K28 L2 b2 v1 v3 ib2 st res hK28 (it hf q) H locs ls (lv_sub hl [0, 1, 2, 3] rfl) hP hS
  · exact wX3_addUp_s44 C n K28 K39 L2 b2 v1 v3 v4 ib2 st res hK28 hK39 (ie hf q) H locs ls (lv_sub hl [0, 1, 2, 3, 4] rfl) hP hS
def fX3_addUp_L39 (n : Nat) (K28 : Int32 → Int32 → St → Option (Unit × St)) (L2 : Nat) (b2 : Nat) : Nat → Int32 → Int32 → Int32 → St → Option (Unit × St)
  | 0, _, _, _, _ => none
  | k + 1, v1, v3, v4, st => fX3_addUp_s39 n K28 (fX3_addUp_L39 n K28 L2 b2 k) L2 b2 v1 v3 v4 st
theorem wX3_addUp_L39 (C : Cx p s m args meth c cX3_addUp 8 wsL_law RX3 none D G ad) (n : Nat) (K28 : Int32 → Int32 → St → Option (Unit × St)) (L2 : Nat) (b2 : Nat) (ib2 : ctab[b2]? = some (.inr (L2, 1))) (res : (Unit × St)) (hK28 : ∀ (v1 : Int32) (v3 : Int32) (st : St), K28 v1 v3 st = some res → At p l e (rmK 0) s m args below meth c D G ad (MQV D G ad below args s res) 8 st [(0, .ref (ad 37)), (1, .int v1), (2, .ref (ad b2)), (3, .int v3)] 28 []) : ∀ (k : Nat) (v1 : Int32) (v3 : Int32) (v4 : Int32)  (st : St), fX3_addUp_L39 n K28 L2 b2 k v1 v3 v4 st = some res → At p l e (rmK 0) s m args below meth c D G ad (MQV D G ad below args s res) 8 st [(0, .ref (ad 37)), (1, .int v1), (2, .ref (ad b2)), (3, .int v3), (4, .int v4)] 39 [] := by
  intro k
  induction k with
  | zero => intro v1 v3 v4  st h; exact absurd h (by intro q; cases q)
  | succ k ih => intro v1 v3 v4  st h; exact wX3_addUp_s39 C n K28 (fX3_addUp_L39 n K28 L2 b2 k) L2 b2 v1 v3 v4 ib2  st res hK28 ih h
def fX3_addUp_s33 (n : Nat) (K28 : Int32 → Int32 → St → Option (Unit × St)) (L2 : Nat) (b2 : Nat) (v1 : Int32) (v3 : Int32) (st : St) : Option (Unit × St) := fX3_addUp_L39 n K28 L2 b2 n v1 v3 ((Int32.ofNat L2) - 1) st
set_option maxHeartbeats 4000000 in
set_option maxRecDepth 100000 in
theorem wX3_addUp_s33 (C : Cx p s m args meth c cX3_addUp 8 wsL_law RX3 none D G ad) (n : Nat) (K28 : Int32 → Int32 → St → Option (Unit × St)) (L2 : Nat) (b2 : Nat) (v1 : Int32) (v3 : Int32) (ib2 : ctab[b2]? = some (.inr (L2, 1)))  (st : St) (res : (Unit × St)) (hK28 : ∀ (v1 : Int32) (v3 : Int32) (st : St), K28 v1 v3 st = some res → At p l e (rmK 0) s m args below meth c D G ad (MQV D G ad below args s res) 8 st [(0, .ref (ad 37)), (1, .int v1), (2, .ref (ad b2)), (3, .int v3)] 28 []) (hf : fX3_addUp_s33 n K28 L2 b2 v1 v3 st = some res) : At p l e (rmK 0) s m args below meth c D G ad (MQV D G ad below args s res) 8 st [(0, .ref (ad 37)), (1, .int v1), (2, .ref (ad b2)), (3, .int v3)] 33 [] := by
  obtain ⟨hx, hb, hml, hown, hts, hr, hlk, hK, had, hSt⟩ := id C
  intro H locs ls hl hP hS
  unfold fX3_addUp_s33 at hf
  refine lv_aload_n hx hb dX3_addUp_33 rfl (lv_at hl 2 rfl) ?_
  refine g_alen hx hb hK hP b2 ib2 dX3_addUp_34 ?_
  refine lv_iconst (v := 1) hx hb dX3_addUp_35 (by decide) ?_
  refine lv_isub hx hb dX3_addUp_36 ?_
  refine lv_istore (lv' := [(4, .int ((Int32.ofNat L2) - 1)), (0, .ref (ad 37)), (1, .int v1), (2, .ref (ad b2)), (3, .int v3)]) hx hb dX3_addUp_37 hl (by decide) rfl (fun ls hl => ?_)
  exact wX3_addUp_L39 C n K28 L2 b2 ib2 res hK28 n v1 v3 ((Int32.ofNat L2) - 1) st hf H locs ls (lv_sub hl [1, 2, 3, 4, 0] rfl) hP hS
def fX3_addUp_s28 (n : Nat) (K28 : Int32 → Int32 → St → Option (Unit × St)) (L2 : Nat) (b2 : Nat) (v1 : Int32) (v3 : Int32) (st : St) : Option (Unit × St) := if v1 ≤ v3 then fX3_addUp_s108 n L2 b2 st else fX3_addUp_s33 n K28 L2 b2 v1 v3 st
set_option maxHeartbeats 4000000 in
set_option maxRecDepth 100000 in
theorem wX3_addUp_s28 (C : Cx p s m args meth c cX3_addUp 8 wsL_law RX3 none D G ad) (n : Nat) (K28 : Int32 → Int32 → St → Option (Unit × St)) (L2 : Nat) (b2 : Nat) (v1 : Int32) (v3 : Int32) (ib2 : ctab[b2]? = some (.inr (L2, 1)))  (st : St) (res : (Unit × St)) (hK28 : ∀ (v1 : Int32) (v3 : Int32) (st : St), K28 v1 v3 st = some res → At p l e (rmK 0) s m args below meth c D G ad (MQV D G ad below args s res) 8 st [(0, .ref (ad 37)), (1, .int v1), (2, .ref (ad b2)), (3, .int v3)] 28 []) (hf : fX3_addUp_s28 n K28 L2 b2 v1 v3 st = some res) : At p l e (rmK 0) s m args below meth c D G ad (MQV D G ad below args s res) 8 st [(0, .ref (ad 37)), (1, .int v1), (2, .ref (ad b2)), (3, .int v3)] 28 [] := by
  obtain ⟨hx, hb, hml, hown, hts, hr, hlk, hK, had, hSt⟩ := id C
  intro H locs ls hl hP hS
  unfold fX3_addUp_s28 at hf
  refine lv_iload_n hx hb dX3_addUp_28 rfl (lv_at hl 3 rfl) ?_
  refine lv_iload_n hx hb dX3_addUp_29 rfl (lv_at hl 1 rfl) ?_
  refine lv_icmp_ge (tgt := 108) hx hb dX3_addUp_30 (by decide) (fun q => ?_) (fun q => ?_)
  · exact wX3_addUp_s108 C n L2 b2 ib2 st res (it hf q) H locs ls (lv_sub hl [] rfl) hP hS
  · exact wX3_addUp_s33 C n K28 L2 b2 v1 v3 ib2 st res hK28 (ie hf q) H locs ls (lv_sub hl [0, 1, 2, 3] rfl) hP hS
def fX3_addUp_L28 (n : Nat)  (L2 : Nat) (b2 : Nat) : Nat → Int32 → Int32 → St → Option (Unit × St)
  | 0, _, _, _ => none
  | k + 1, v1, v3, st => fX3_addUp_s28 n (fX3_addUp_L28 n L2 b2 k) L2 b2 v1 v3 st
theorem wX3_addUp_L28 (C : Cx p s m args meth c cX3_addUp 8 wsL_law RX3 none D G ad) (n : Nat)  (L2 : Nat) (b2 : Nat) (ib2 : ctab[b2]? = some (.inr (L2, 1))) (res : (Unit × St))  : ∀ (k : Nat) (v1 : Int32) (v3 : Int32)  (st : St), fX3_addUp_L28 n L2 b2 k v1 v3 st = some res → At p l e (rmK 0) s m args below meth c D G ad (MQV D G ad below args s res) 8 st [(0, .ref (ad 37)), (1, .int v1), (2, .ref (ad b2)), (3, .int v3)] 28 [] := by
  intro k
  induction k with
  | zero => intro v1 v3  st h; exact absurd h (by intro q; cases q)
  | succ k ih => intro v1 v3  st h; exact wX3_addUp_s28 C n (fX3_addUp_L28 n L2 b2 k) L2 b2 v1 v3 ib2  st res ih h
def fX3_addUp_s26 (n : Nat)  (L2 : Nat) (b2 : Nat) (v1 : Int32) (st : St) : Option (Unit × St) := fX3_addUp_L28 n L2 b2 n v1 0 st
set_option maxHeartbeats 4000000 in
set_option maxRecDepth 100000 in
theorem wX3_addUp_s26 (C : Cx p s m args meth c cX3_addUp 8 wsL_law RX3 none D G ad) (n : Nat)  (L2 : Nat) (b2 : Nat) (v1 : Int32) (ib2 : ctab[b2]? = some (.inr (L2, 1)))  (st : St) (res : (Unit × St))  (hf : fX3_addUp_s26 n  L2 b2 v1 st = some res) : At p l e (rmK 0) s m args below meth c D G ad (MQV D G ad below args s res) 8 st [(0, .ref (ad 37)), (1, .int v1), (2, .ref (ad b2))] 26 [] := by
  obtain ⟨hx, hb, hml, hown, hts, hr, hlk, hK, had, hSt⟩ := id C
  intro H locs ls hl hP hS
  unfold fX3_addUp_s26 at hf
  refine lv_iconst (v := 0) hx hb dX3_addUp_26 (by decide) ?_
  refine lv_istore_n (lv' := [(3, .int 0), (0, .ref (ad 37)), (1, .int v1), (2, .ref (ad b2))]) hx hb dX3_addUp_27 rfl hl (by decide) rfl (fun ls hl => ?_)
  exact wX3_addUp_L28 C n L2 b2 ib2 res n v1 0 st hf H locs ls (lv_sub hl [1, 2, 3, 0] rfl) hP hS
def fX3_addUp_s20 (n : Nat) (K2 : Int32 → Int32 → St → Option (Unit × St)) (L2 : Nat) (b2 : Nat) (v1 : Int32) (v3 : Int32) (st : St) : Option (Unit × St) := K2 v1 (v3 + 1) st
set_option maxHeartbeats 4000000 in
set_option maxRecDepth 100000 in
theorem wX3_addUp_s20 (C : Cx p s m args meth c cX3_addUp 8 wsL_law RX3 none D G ad) (n : Nat) (K2 : Int32 → Int32 → St → Option (Unit × St)) (L2 : Nat) (b2 : Nat) (v1 : Int32) (v3 : Int32) (ib2 : ctab[b2]? = some (.inr (L2, 1)))  (st : St) (res : (Unit × St)) (hK2 : ∀ (v1 : Int32) (v3 : Int32) (st : St), K2 v1 v3 st = some res → At p l e (rmK 0) s m args below meth c D G ad (MQV D G ad below args s res) 8 st [(0, .ref (ad 37)), (1, .int v1), (2, .ref (ad b2)), (3, .int v3)] 2 []) (hf : fX3_addUp_s20 n K2 L2 b2 v1 v3 st = some res) : At p l e (rmK 0) s m args below meth c D G ad (MQV D G ad below args s res) 8 st [(0, .ref (ad 37)), (1, .int v1), (2, .ref (ad b2)), (3, .int v3)] 20 [] := by
  obtain ⟨hx, hb, hml, hown, hts, hr, hlk, hK, had, hSt⟩ := id C
  intro H locs ls hl hP hS
  unfold fX3_addUp_s20 at hf
  refine lv_iinc (v := v3 + 1) (lv' := [(3, .int (v3 + 1)), (0, .ref (ad 37)), (1, .int v1), (2, .ref (ad b2))]) hx hb dX3_addUp_20 hl (k := 3) rfl rfl (by decide) rfl (fun ls hl => ?_)
  refine lv_goto (tgt := 2) hx hb dX3_addUp_23 (by decide) ?_
  exact hK2 v1 (v3 + 1)  st hf H locs ls (lv_sub hl [1, 2, 3, 0] rfl) hP hS
def fX3_addUp_s19 (n : Nat) (K2 : Int32 → Int32 → St → Option (Unit × St)) (L2 : Nat) (b2 : Nat) (v1 : Int32) (v3 : Int32) (k1 : Int32) (k2 : Int64) (st : St) : Option (Unit × St) := if inb k1 L2 = true then (fX3_addUp_s20 n K2 L2 b2 v1 v3 (setJ st b2 k1.toNatClampNeg k2)) else none
set_option maxHeartbeats 4000000 in
set_option maxRecDepth 100000 in
theorem wX3_addUp_s19 (C : Cx p s m args meth c cX3_addUp 8 wsL_law RX3 none D G ad) (n : Nat) (K2 : Int32 → Int32 → St → Option (Unit × St)) (L2 : Nat) (b2 : Nat) (v1 : Int32) (v3 : Int32) (k1 : Int32) (k2 : Int64) (ib2 : ctab[b2]? = some (.inr (L2, 1)))  (st : St) (res : (Unit × St)) (hK2 : ∀ (v1 : Int32) (v3 : Int32) (st : St), K2 v1 v3 st = some res → At p l e (rmK 0) s m args below meth c D G ad (MQV D G ad below args s res) 8 st [(0, .ref (ad 37)), (1, .int v1), (2, .ref (ad b2)), (3, .int v3)] 2 []) (hf : fX3_addUp_s19 n K2 L2 b2 v1 v3 k1 k2 st = some res) : At p l e (rmK 0) s m args below meth c D G ad (MQV D G ad below args s res) 8 st [(0, .ref (ad 37)), (1, .int v1), (2, .ref (ad b2)), (3, .int v3)] 19 [.long k2, .int k1, .ref (ad b2)] := by
  obtain ⟨hx, hb, hml, hown, hts, hr, hlk, hK, had, hSt⟩ := id C
  intro H locs ls hl hP hS
  unfold fX3_addUp_s19 at hf
  obtain ⟨g1, hf⟩ := gd hf
  refine g_last hx hb hK had hP hS b2 ib2 g1 dX3_addUp_19 (fun H locs hP hS => ?_)
  exact wX3_addUp_s20 C n K2 L2 b2 v1 v3 ib2 (setJ st b2 k1.toNatClampNeg k2) res hK2 hf H locs ls (lv_sub hl [0, 1, 2, 3] rfl) hP hS
def fX3_addUp_s18 (n : Nat) (K2 : Int32 → Int32 → St → Option (Unit × St)) (L2 : Nat) (b2 : Nat) (v1 : Int32) (v3 : Int32) (k1 : Int32) (st : St) : Option (Unit × St) := fX3_addUp_s19 n K2 L2 b2 v1 v3 k1 0 st
set_option maxHeartbeats 4000000 in
set_option maxRecDepth 100000 in
theorem wX3_addUp_s18 (C : Cx p s m args meth c cX3_addUp 8 wsL_law RX3 none D G ad) (n : Nat) (K2 : Int32 → Int32 → St → Option (Unit × St)) (L2 : Nat) (b2 : Nat) (v1 : Int32) (v3 : Int32) (k1 : Int32) (ib2 : ctab[b2]? = some (.inr (L2, 1)))  (st : St) (res : (Unit × St)) (hK2 : ∀ (v1 : Int32) (v3 : Int32) (st : St), K2 v1 v3 st = some res → At p l e (rmK 0) s m args below meth c D G ad (MQV D G ad below args s res) 8 st [(0, .ref (ad 37)), (1, .int v1), (2, .ref (ad b2)), (3, .int v3)] 2 []) (hf : fX3_addUp_s18 n K2 L2 b2 v1 v3 k1 st = some res) : At p l e (rmK 0) s m args below meth c D G ad (MQV D G ad below args s res) 8 st [(0, .ref (ad 37)), (1, .int v1), (2, .ref (ad b2)), (3, .int v3)] 18 [.int k1, .ref (ad b2)] := by
  obtain ⟨hx, hb, hml, hown, hts, hr, hlk, hK, had, hSt⟩ := id C
  intro H locs ls hl hP hS
  unfold fX3_addUp_s18 at hf
  refine lv_lconst (v := 0) hx hb dX3_addUp_18 (by decide) ?_
  exact wX3_addUp_s19 C n K2 L2 b2 v1 v3 k1 0 ib2 st res hK2 hf H locs ls (lv_sub hl [0, 1, 2, 3] rfl) hP hS
def fX3_addUp_s14 (n : Nat) (K2 : Int32 → Int32 → St → Option (Unit × St)) (L2 : Nat) (b2 : Nat) (v1 : Int32) (v3 : Int32) (k1 : Int32) (st : St) : Option (Unit × St) := fX3_addUp_s19 n K2 L2 b2 v1 v3 k1 1 st
set_option maxHeartbeats 4000000 in
set_option maxRecDepth 100000 in
theorem wX3_addUp_s14 (C : Cx p s m args meth c cX3_addUp 8 wsL_law RX3 none D G ad) (n : Nat) (K2 : Int32 → Int32 → St → Option (Unit × St)) (L2 : Nat) (b2 : Nat) (v1 : Int32) (v3 : Int32) (k1 : Int32) (ib2 : ctab[b2]? = some (.inr (L2, 1)))  (st : St) (res : (Unit × St)) (hK2 : ∀ (v1 : Int32) (v3 : Int32) (st : St), K2 v1 v3 st = some res → At p l e (rmK 0) s m args below meth c D G ad (MQV D G ad below args s res) 8 st [(0, .ref (ad 37)), (1, .int v1), (2, .ref (ad b2)), (3, .int v3)] 2 []) (hf : fX3_addUp_s14 n K2 L2 b2 v1 v3 k1 st = some res) : At p l e (rmK 0) s m args below meth c D G ad (MQV D G ad below args s res) 8 st [(0, .ref (ad 37)), (1, .int v1), (2, .ref (ad b2)), (3, .int v3)] 14 [.int k1, .ref (ad b2)] := by
  obtain ⟨hx, hb, hml, hown, hts, hr, hlk, hK, had, hSt⟩ := id C
  intro H locs ls hl hP hS
  unfold fX3_addUp_s14 at hf
  refine lv_lconst (v := 1) hx hb dX3_addUp_14 (by decide) ?_
  refine lv_goto (tgt := 19) hx hb dX3_addUp_15 (by decide) ?_
  exact wX3_addUp_s19 C n K2 L2 b2 v1 v3 k1 1 ib2 st res hK2 hf H locs ls (lv_sub hl [0, 1, 2, 3] rfl) hP hS
def fX3_addUp_s8 (n : Nat) (K2 : Int32 → Int32 → St → Option (Unit × St)) (L2 : Nat) (b2 : Nat) (v1 : Int32) (v3 : Int32) (st : St) : Option (Unit × St) := if v3 = 0 then fX3_addUp_s14 n K2 L2 b2 v1 v3 v3 st else fX3_addUp_s18 n K2 L2 b2 v1 v3 v3 st
set_option maxHeartbeats 4000000 in
set_option maxRecDepth 100000 in
theorem wX3_addUp_s8 (C : Cx p s m args meth c cX3_addUp 8 wsL_law RX3 none D G ad) (n : Nat) (K2 : Int32 → Int32 → St → Option (Unit × St)) (L2 : Nat) (b2 : Nat) (v1 : Int32) (v3 : Int32) (ib2 : ctab[b2]? = some (.inr (L2, 1)))  (st : St) (res : (Unit × St)) (hK2 : ∀ (v1 : Int32) (v3 : Int32) (st : St), K2 v1 v3 st = some res → At p l e (rmK 0) s m args below meth c D G ad (MQV D G ad below args s res) 8 st [(0, .ref (ad 37)), (1, .int v1), (2, .ref (ad b2)), (3, .int v3)] 2 []) (hf : fX3_addUp_s8 n K2 L2 b2 v1 v3 st = some res) : At p l e (rmK 0) s m args below meth c D G ad (MQV D G ad below args s res) 8 st [(0, .ref (ad 37)), (1, .int v1), (2, .ref (ad b2)), (3, .int v3)] 8 [] := by
  obtain ⟨hx, hb, hml, hown, hts, hr, hlk, hK, had, hSt⟩ := id C
  intro H locs ls hl hP hS
  unfold fX3_addUp_s8 at hf
  refine lv_aload_n hx hb dX3_addUp_8 rfl (lv_at hl 2 rfl) ?_
  refine lv_iload_n hx hb dX3_addUp_9 rfl (lv_at hl 3 rfl) ?_
  refine lv_iload_n hx hb dX3_addUp_10 rfl (lv_at hl 3 rfl) ?_
  refine lv_if_ne (tgt := 18) hx hb dX3_addUp_11 (by decide) (fun q => ?_) (fun q => ?_)
  · exact wX3_addUp_s18 C n K2 L2 b2 v1 v3 v3 ib2 st res hK2 (ie hf q) H locs ls (lv_sub hl [0, 1, 2, 3] rfl) hP hS
  · exact wX3_addUp_s14 C n K2 L2 b2 v1 v3 v3 ib2 st res hK2 (it hf q) H locs ls (lv_sub hl [0, 1, 2, 3] rfl) hP hS
def fX3_addUp_s2 (n : Nat) (K2 : Int32 → Int32 → St → Option (Unit × St)) (L2 : Nat) (b2 : Nat) (v1 : Int32) (v3 : Int32) (st : St) : Option (Unit × St) := if (Int32.ofNat L2) ≤ v3 then fX3_addUp_s26 n L2 b2 v1 st else fX3_addUp_s8 n K2 L2 b2 v1 v3 st
set_option maxHeartbeats 4000000 in
set_option maxRecDepth 100000 in
theorem wX3_addUp_s2 (C : Cx p s m args meth c cX3_addUp 8 wsL_law RX3 none D G ad) (n : Nat) (K2 : Int32 → Int32 → St → Option (Unit × St)) (L2 : Nat) (b2 : Nat) (v1 : Int32) (v3 : Int32) (ib2 : ctab[b2]? = some (.inr (L2, 1)))  (st : St) (res : (Unit × St)) (hK2 : ∀ (v1 : Int32) (v3 : Int32) (st : St), K2 v1 v3 st = some res → At p l e (rmK 0) s m args below meth c D G ad (MQV D G ad below args s res) 8 st [(0, .ref (ad 37)), (1, .int v1), (2, .ref (ad b2)), (3, .int v3)] 2 []) (hf : fX3_addUp_s2 n K2 L2 b2 v1 v3 st = some res) : At p l e (rmK 0) s m args below meth c D G ad (MQV D G ad below args s res) 8 st [(0, .ref (ad 37)), (1, .int v1), (2, .ref (ad b2)), (3, .int v3)] 2 [] := by
  obtain ⟨hx, hb, hml, hown, hts, hr, hlk, hK, had, hSt⟩ := id C
  intro H locs ls hl hP hS
  unfold fX3_addUp_s2 at hf
  refine lv_iload_n hx hb dX3_addUp_2 rfl (lv_at hl 3 rfl) ?_
  refine lv_aload_n hx hb dX3_addUp_3 rfl (lv_at hl 2 rfl) ?_
  refine g_alen hx hb hK hP b2 ib2 dX3_addUp_4 ?_
  refine lv_icmp_ge (tgt := 26) hx hb dX3_addUp_5 (by decide) (fun q => ?_) (fun q => ?_)
  · exact wX3_addUp_s26 C n L2 b2 v1 ib2 st res (it hf q) H locs ls (lv_sub hl [0, 1, 2] rfl) hP hS
  · exact wX3_addUp_s8 C n K2 L2 b2 v1 v3 ib2 st res hK2 (ie hf q) H locs ls (lv_sub hl [0, 1, 2, 3] rfl) hP hS
def fX3_addUp_L2 (n : Nat)  (L2 : Nat) (b2 : Nat) : Nat → Int32 → Int32 → St → Option (Unit × St)
  | 0, _, _, _ => none
  | k + 1, v1, v3, st => fX3_addUp_s2 n (fX3_addUp_L2 n L2 b2 k) L2 b2 v1 v3 st
theorem wX3_addUp_L2 (C : Cx p s m args meth c cX3_addUp 8 wsL_law RX3 none D G ad) (n : Nat)  (L2 : Nat) (b2 : Nat) (ib2 : ctab[b2]? = some (.inr (L2, 1))) (res : (Unit × St))  : ∀ (k : Nat) (v1 : Int32) (v3 : Int32)  (st : St), fX3_addUp_L2 n L2 b2 k v1 v3 st = some res → At p l e (rmK 0) s m args below meth c D G ad (MQV D G ad below args s res) 8 st [(0, .ref (ad 37)), (1, .int v1), (2, .ref (ad b2)), (3, .int v3)] 2 [] := by
  intro k
  induction k with
  | zero => intro v1 v3  st h; exact absurd h (by intro q; cases q)
  | succ k ih => intro v1 v3  st h; exact wX3_addUp_s2 C n (fX3_addUp_L2 n L2 b2 k) L2 b2 v1 v3 ib2  st res ih h
def fX3_addUp_s0 (n : Nat)  (L2 : Nat) (b2 : Nat) (v1 : Int32) (st : St) : Option (Unit × St) := fX3_addUp_L2 n L2 b2 n v1 0 st
set_option maxHeartbeats 4000000 in
set_option maxRecDepth 100000 in
theorem wX3_addUp_s0 (C : Cx p s m args meth c cX3_addUp 8 wsL_law RX3 none D G ad) (n : Nat)  (L2 : Nat) (b2 : Nat) (v1 : Int32) (ib2 : ctab[b2]? = some (.inr (L2, 1)))  (st : St) (res : (Unit × St))  (hf : fX3_addUp_s0 n  L2 b2 v1 st = some res) : At p l e (rmK 0) s m args below meth c D G ad (MQV D G ad below args s res) 8 st [(0, .ref (ad 37)), (1, .int v1), (2, .ref (ad b2))] 0 [] := by
  obtain ⟨hx, hb, hml, hown, hts, hr, hlk, hK, had, hSt⟩ := id C
  intro H locs ls hl hP hS
  unfold fX3_addUp_s0 at hf
  refine lv_iconst (v := 0) hx hb dX3_addUp_0 (by decide) ?_
  refine lv_istore_n (lv' := [(3, .int 0), (0, .ref (ad 37)), (1, .int v1), (2, .ref (ad b2))]) hx hb dX3_addUp_1 rfl hl (by decide) rfl (fun ls hl => ?_)
  exact wX3_addUp_L2 C n L2 b2 ib2 res n v1 0 st hf H locs ls (lv_sub hl [1, 2, 3, 0] rfl) hP hS
def fX3_addUp (n : Nat) (L2 : Nat) (b2 : Nat) (a1 : Int32) (st : St) : Option (Unit × St) := fX3_addUp_s0 n L2 b2 a1 st
theorem okX3_addUp : okY yX3_addUp RX3 2 := by unfold okY; decide +kernel
end
set_option maxRecDepth 100000 in
theorem kX3_addUp (l : Launch) (D : va_G) (G : G3) (ad : Nat → Nat) (had : Adr ad) (n : Nat) (L2 : Nat) (b2 : Nat) (ib2 : ctab[b2]? = some (.inr (L2, 1))) (a1 : Int32) (st : St) (res : (Unit × St)) (hf : fX3_addUp n L2 b2 a1 st = some res) {sz : Nat} : CtV l yX3_addUp (wsU yX3_addUp cX3_addUp 8 none) (rmK 0) D G ad sz [.ref (ad 37), .int a1, .ref (ad b2)] st res := by
  refine Met.ofW (cc := cX3_addUp) (maxL := 8) (ret := none) (by decide) rfl ?_
  intro p e s m args below meth c s₁ B hml hv
  obtain ⟨rfl, hsz, hP, hK, hSt⟩ := hv
  have hts := atoms_spec (ws := wsU yX3_addUp cX3_addUp 8 none) B.pre
  have C : Cx p s m _ meth c cX3_addUp 8 wsL_law RX3 none D G ad := ⟨B.exec, B.bytes, hml, findClass_of_methodNamed B.named, fun w h => hts w (List.mem_cons_of_mem _ h), B.returns, B.notSynchronized, hK, had, hSt⟩
  subst hsz
  have hl := lv_entry ([.ref (ad 37), .int a1, .ref (ad b2)]) (n := 8) (Nat.le_of_ble_eq_true rfl)
  rw [lg_entry_eq]
  generalize (lg_sl ([.ref (ad 37), .int a1, .ref (ad b2)]) ++ List.replicate (8 - (lg_sl ([.ref (ad 37), .int a1, .ref (ad b2)])).length) Slot.unset).toArray = ls at hl ⊢
  exact wX3_addUp_s0 C n L2 b2 a1 ib2  st res hf s.heap [] ls (lv_sub hl [0, 1, 2] rfl) hP va_S.rf
section
variable {p : Program} {l : Launch} {e : Env} {s : State} {m : MethodId} {args : Array Value} {below : List Frame} {meth : Method} {c : Code} {D : va_G} {G : G3} {ad : Nat → Nat}
def fX3_nearCost_s24 (n : Nat)   (k0 : Int64) (st : St) : Option (Int64 × St) := some (k0, st)
set_option maxHeartbeats 4000000 in
set_option maxRecDepth 100000 in
theorem wX3_nearCost_s24 (C : Cx p s m args meth c cX3_nearCost 2 wsL_law RX3 (some .long) D G ad) (n : Nat)   (k0 : Int64)   (st : St) (res : (Int64 × St))  (hf : fX3_nearCost_s24 n   k0 st = some res) : At p l e (rmK 1) s m args below meth c D G ad (MQJ D G ad below args s res) 2 st [] 24 [.long k0] := by
  obtain ⟨hx, hb, hml, hown, hts, hr, hlk, hK, had, hSt⟩ := id C
  intro H locs ls hl hP hS
  unfold fX3_nearCost_s24 at hf
  exact g_lret hx hb hr hlk hP hS dX3_nearCost_24 hf
def fX3_nearCost_s23 (n : Nat)    (st : St) : Option (Int64 × St) := fX3_nearCost_s24 n 0 st
set_option maxHeartbeats 4000000 in
set_option maxRecDepth 100000 in
theorem wX3_nearCost_s23 (C : Cx p s m args meth c cX3_nearCost 2 wsL_law RX3 (some .long) D G ad) (n : Nat)      (st : St) (res : (Int64 × St))  (hf : fX3_nearCost_s23 n    st = some res) : At p l e (rmK 1) s m args below meth c D G ad (MQJ D G ad below args s res) 2 st [] 23 [] := by
  obtain ⟨hx, hb, hml, hown, hts, hr, hlk, hK, had, hSt⟩ := id C
  intro H locs ls hl hP hS
  unfold fX3_nearCost_s23 at hf
  refine lv_lconst (v := 0) hx hb dX3_nearCost_23 (by decide) ?_
  exact wX3_nearCost_s24 C n 0 st res hf H locs ls (lv_sub hl [] rfl) hP hS
def fX3_nearCost_s11 (n : Nat)   (v1 : Int32) (st : St) : Option (Int64 × St) := if inb (v1 - (-42)) 73 = true then (fX3_nearCost_s24 n (st.2 42 (v1 - (-42)).toNatClampNeg) st) else none
set_option maxHeartbeats 4000000 in
set_option maxRecDepth 100000 in
theorem wX3_nearCost_s11 (C : Cx p s m args meth c cX3_nearCost 2 wsL_law RX3 (some .long) D G ad) (n : Nat)   (v1 : Int32)   (st : St) (res : (Int64 × St))  (hf : fX3_nearCost_s11 n   v1 st = some res) : At p l e (rmK 1) s m args below meth c D G ad (MQJ D G ad below args s res) 2 st [(0, .ref (ad 37)), (1, .int v1)] 11 [] := by
  obtain ⟨hx, hb, hml, hown, hts, hr, hlk, hK, had, hSt⟩ := id C
  intro H locs ls hl hP hS
  unfold fX3_nearCost_s11 at hf
  refine lv_aload_n hx hb dX3_nearCost_11 rfl (lv_at hl 0 rfl) ?_
  refine g_getR hx hb hts inlX3 hown hK hP 37 ct_37 rfl 4 (by decide) (hts _ wm_6_2) rfl dX3_nearCost_12 ?_
  refine lv_iload_n hx hb dX3_nearCost_15 rfl (lv_at hl 1 rfl) ?_
  refine lv_bipush (v := (-42)) hx hb dX3_nearCost_16 (by decide) ?_
  refine lv_isub hx hb dX3_nearCost_18 ?_
  obtain ⟨g1, hf⟩ := gd hf
  refine g_lald hx hb hK hP 42 ct_42 g1 dX3_nearCost_19 ?_
  refine lv_goto (tgt := 24) hx hb dX3_nearCost_20 (by decide) ?_
  exact wX3_nearCost_s24 C n (st.2 42 (v1 - (-42)).toNatClampNeg) st res hf H locs ls (lv_sub hl [] rfl) hP hS
def fX3_nearCost_s8 (n : Nat)   (v1 : Int32) (k0 : Int32) (st : St) : Option (Int64 × St) := if k0 = 0 then fX3_nearCost_s23 n st else fX3_nearCost_s11 n v1 st
set_option maxHeartbeats 4000000 in
set_option maxRecDepth 100000 in
theorem wX3_nearCost_s8 (C : Cx p s m args meth c cX3_nearCost 2 wsL_law RX3 (some .long) D G ad) (n : Nat)   (v1 : Int32) (k0 : Int32)   (st : St) (res : (Int64 × St))  (hf : fX3_nearCost_s8 n   v1 k0 st = some res) : At p l e (rmK 1) s m args below meth c D G ad (MQJ D G ad below args s res) 2 st [(0, .ref (ad 37)), (1, .int v1)] 8 [.int k0] := by
  obtain ⟨hx, hb, hml, hown, hts, hr, hlk, hK, had, hSt⟩ := id C
  intro H locs ls hl hP hS
  unfold fX3_nearCost_s8 at hf
  refine lv_if_eq (tgt := 23) hx hb dX3_nearCost_8 (by decide) (fun q => ?_) (fun q => ?_)
  · exact wX3_nearCost_s23 C n st res (it hf q) H locs ls (lv_sub hl [] rfl) hP hS
  · exact wX3_nearCost_s11 C n v1 st res (ie hf q) H locs ls (lv_sub hl [0, 1] rfl) hP hS
def fX3_nearCost_s0 (n : Nat)   (v1 : Int32) (st : St) : Option (Int64 × St) := (fX10_within n v1 (-42) 30 st).bind (fun q => fX3_nearCost_s8 n v1 q.1 q.2)
set_option maxHeartbeats 4000000 in
set_option maxRecDepth 100000 in
theorem wX3_nearCost_s0 (C : Cx p s m args meth c cX3_nearCost 2 wsL_law RX3 (some .long) D G ad) (n : Nat)   (v1 : Int32)   (st : St) (res : (Int64 × St))  (hf : fX3_nearCost_s0 n   v1 st = some res) : At p l e (rmK 1) s m args below meth c D G ad (MQJ D G ad below args s res) 2 st [(0, .ref (ad 37)), (1, .int v1)] 0 [] := by
  obtain ⟨hx, hb, hml, hown, hts, hr, hlk, hK, had, hSt⟩ := id C
  intro H locs ls hl hP hS
  unfold fX3_nearCost_s0 at hf
  refine lv_iload_n hx hb dX3_nearCost_0 rfl (lv_at hl 1 rfl) ?_
  refine lv_bipush (v := (-42)) hx hb dX3_nearCost_1 (by decide) ?_
  refine lv_bipush (v := 30) hx hb dX3_nearCost_3 (by decide) ?_
  obtain ⟨q, hq, hf⟩ := bd hf
  refine gcN_i (k := 0) (As := [.int v1, .int (-42), .int 30]) (rest := []) hx hb hml hown hts hK hSt hP hS hl.1 (goodU wm_9_19) wm_9_18 wm_1_2 hK.2.2 okX10_within (Nat.le_of_ble_eq_true rfl) (Nat.le_of_ble_eq_true rfl) rfl rfl (Nat.le_of_ble_eq_true rfl) dX3_nearCost_5 (kX10_within l D G ad had n  v1 (-42) 30 st q hq) (fun H locs hP hS => ?_)
  exact wX3_nearCost_s8 C n v1 q.1 q.2 res hf H locs ls (lv_sub hl [0, 1] rfl) hP hS
def fX3_nearCost (n : Nat)  (a1 : Int32) (st : St) : Option (Int64 × St) := fX3_nearCost_s0 n a1 st
theorem okX3_nearCost : okY yX3_nearCost RX3 1 := by unfold okY; decide +kernel
end
set_option maxRecDepth 100000 in
theorem kX3_nearCost (l : Launch) (D : va_G) (G : G3) (ad : Nat → Nat) (had : Adr ad) (n : Nat)   (a1 : Int32) (st : St) (res : (Int64 × St)) (hf : fX3_nearCost n  a1 st = some res) {sz : Nat} : CtJ l yX3_nearCost (wsU yX3_nearCost cX3_nearCost 2 (some .long)) (rmK 1) D G ad sz [.ref (ad 37), .int a1] st res := by
  refine Met.ofW (cc := cX3_nearCost) (maxL := 2) (ret := (some .long)) (by decide) rfl ?_
  intro p e s m args below meth c s₁ B hml hv
  obtain ⟨rfl, hsz, hP, hK, hSt⟩ := hv
  have hts := atoms_spec (ws := wsU yX3_nearCost cX3_nearCost 2 (some .long)) B.pre
  have C : Cx p s m _ meth c cX3_nearCost 2 wsL_law RX3 (some .long) D G ad := ⟨B.exec, B.bytes, hml, findClass_of_methodNamed B.named, fun w h => hts w (List.mem_cons_of_mem _ h), B.returns, B.notSynchronized, hK, had, hSt⟩
  subst hsz
  have hl := lv_entry ([.ref (ad 37), .int a1]) (n := 2) (Nat.le_of_ble_eq_true rfl)
  rw [lg_entry_eq]
  generalize (lg_sl ([.ref (ad 37), .int a1]) ++ List.replicate (2 - (lg_sl ([.ref (ad 37), .int a1])).length) Slot.unset).toArray = ls at hl ⊢
  exact wX3_nearCost_s0 C n  a1   st res hf s.heap [] ls (lv_sub hl [0, 1] rfl) hP va_S.rf
section
variable {p : Program} {l : Launch} {e : Env} {s : State} {m : MethodId} {args : Array Value} {below : List Frame} {meth : Method} {c : Code} {D : va_G} {G : G3} {ad : Nat → Nat}
def fX3_nearSum_s79 (n : Nat)   (v2 : Int64) (st : St) : Option (Int64 × St) := some (v2, st)
set_option maxHeartbeats 4000000 in
set_option maxRecDepth 100000 in
theorem wX3_nearSum_s79 (C : Cx p s m args meth c cX3_nearSum 7 wsL_law RX3 (some .long) D G ad) (n : Nat)   (v2 : Int64)   (st : St) (res : (Int64 × St))  (hf : fX3_nearSum_s79 n   v2 st = some res) : At p l e (rmK 0) s m args below meth c D G ad (MQJ D G ad below args s res) 7 st [(2, .long v2)] 79 [] := by
  obtain ⟨hx, hb, hml, hown, hts, hr, hlk, hK, had, hSt⟩ := id C
  intro H locs ls hl hP hS
  unfold fX3_nearSum_s79 at hf
  refine lv_lload_n hx hb dX3_nearSum_79 rfl (lv_at hl 0 rfl) ?_
  exact g_lret hx hb hr hlk hP hS dX3_nearSum_80 hf
def fX3_nearSum_s60 (n : Nat) (K5 : Int32 → Int64 → Int32 → St → Option (Int64 × St))  (v1 : Int32) (v2 : Int64) (v4 : Int32) (v5 : Int64) (st : St) : Option (Int64 × St) := if inb v4 17 = true then (K5 v1 (v2 + ((st.2 40 v4.toNatClampNeg) * v5)) (v4 + 1) st) else none
set_option maxHeartbeats 4000000 in
set_option maxRecDepth 100000 in
theorem wX3_nearSum_s60 (C : Cx p s m args meth c cX3_nearSum 7 wsL_law RX3 (some .long) D G ad) (n : Nat) (K5 : Int32 → Int64 → Int32 → St → Option (Int64 × St))  (v1 : Int32) (v2 : Int64) (v4 : Int32) (v5 : Int64)   (st : St) (res : (Int64 × St)) (hK5 : ∀ (v1 : Int32) (v2 : Int64) (v4 : Int32) (st : St), K5 v1 v2 v4 st = some res → At p l e (rmK 0) s m args below meth c D G ad (MQJ D G ad below args s res) 7 st [(0, .ref (ad 37)), (1, .int v1), (2, .long v2), (4, .int v4)] 5 []) (hf : fX3_nearSum_s60 n K5  v1 v2 v4 v5 st = some res) : At p l e (rmK 0) s m args below meth c D G ad (MQJ D G ad below args s res) 7 st [(0, .ref (ad 37)), (1, .int v1), (2, .long v2), (4, .int v4), (5, .long v5)] 60 [] := by
  obtain ⟨hx, hb, hml, hown, hts, hr, hlk, hK, had, hSt⟩ := id C
  intro H locs ls hl hP hS
  unfold fX3_nearSum_s60 at hf
  refine lv_lload_n hx hb dX3_nearSum_60 rfl (lv_at hl 2 rfl) ?_
  refine lv_aload_n hx hb dX3_nearSum_61 rfl (lv_at hl 0 rfl) ?_
  refine g_getR hx hb hts inlX3 hown hK hP 37 ct_37 rfl 2 (by decide) (hts _ wm_6_0) rfl dX3_nearSum_62 ?_
  refine lv_iload hx hb dX3_nearSum_65 (lv_at hl 3 rfl) ?_
  obtain ⟨g1, hf⟩ := gd hf
  refine g_lald hx hb hK hP 40 ct_40 g1 dX3_nearSum_67 ?_
  refine lv_lload hx hb dX3_nearSum_68 (lv_at hl 4 rfl) ?_
  refine lv_lmul hx hb dX3_nearSum_70 ?_
  refine lv_ladd hx hb dX3_nearSum_71 ?_
  refine lv_lstore_n (lv' := [(2, .long (v2 + ((st.2 40 v4.toNatClampNeg) * v5))), (0, .ref (ad 37)), (1, .int v1), (4, .int v4), (5, .long v5)]) hx hb dX3_nearSum_72 rfl hl (by decide) rfl (fun ls hl => ?_)
  refine lv_iinc (v := v4 + 1) (lv' := [(4, .int (v4 + 1)), (2, .long (v2 + ((st.2 40 v4.toNatClampNeg) * v5))), (0, .ref (ad 37)), (1, .int v1), (5, .long v5)]) hx hb dX3_nearSum_73 hl (k := 3) rfl rfl (by decide) rfl (fun ls hl => ?_)
  refine lv_goto (tgt := 5) hx hb dX3_nearSum_76 (by decide) ?_
  exact hK5 v1 (v2 + ((st.2 40 v4.toNatClampNeg) * v5)) (v4 + 1)  st hf H locs ls (lv_sub hl [2, 3, 1, 0] rfl) hP hS
def fX3_nearSum_s34 (n : Nat) (K5 : Int32 → Int64 → Int32 → St → Option (Int64 × St))  (v1 : Int32) (v2 : Int64) (v4 : Int32) (v5 : Int64) (st : St) : Option (Int64 × St) := fX3_nearSum_s60 n K5 v1 v2 v4 (v5 + (((((st.1 37 9) + (st.1 37 7)) + (st.1 37 8)).toInt64) * ((v4 - v1).toInt64))) st
set_option maxHeartbeats 4000000 in
set_option maxRecDepth 100000 in
theorem wX3_nearSum_s34 (C : Cx p s m args meth c cX3_nearSum 7 wsL_law RX3 (some .long) D G ad) (n : Nat) (K5 : Int32 → Int64 → Int32 → St → Option (Int64 × St))  (v1 : Int32) (v2 : Int64) (v4 : Int32) (v5 : Int64)   (st : St) (res : (Int64 × St)) (hK5 : ∀ (v1 : Int32) (v2 : Int64) (v4 : Int32) (st : St), K5 v1 v2 v4 st = some res → At p l e (rmK 0) s m args below meth c D G ad (MQJ D G ad below args s res) 7 st [(0, .ref (ad 37)), (1, .int v1), (2, .long v2), (4, .int v4)] 5 []) (hf : fX3_nearSum_s34 n K5  v1 v2 v4 v5 st = some res) : At p l e (rmK 0) s m args below meth c D G ad (MQJ D G ad below args s res) 7 st [(0, .ref (ad 37)), (1, .int v1), (2, .long v2), (4, .int v4), (5, .long v5)] 34 [] := by
  obtain ⟨hx, hb, hml, hown, hts, hr, hlk, hK, had, hSt⟩ := id C
  intro H locs ls hl hP hS
  unfold fX3_nearSum_s34 at hf
  refine lv_lload hx hb dX3_nearSum_34 (lv_at hl 4 rfl) ?_
  refine lv_aload_n hx hb dX3_nearSum_36 rfl (lv_at hl 0 rfl) ?_
  refine g_getI hx hb hts inlX3 hown hK hP 37 ct_37 rfl 9 (by decide) (hts _ wm_41_17) rfl dX3_nearSum_37 ?_
  refine lv_aload_n hx hb dX3_nearSum_40 rfl (lv_at hl 0 rfl) ?_
  refine g_getI hx hb hts inlX3 hown hK hP 37 ct_37 rfl 7 (by decide) (hts _ wm_41_15) rfl dX3_nearSum_41 ?_
  refine lv_iadd hx hb dX3_nearSum_44 ?_
  refine lv_aload_n hx hb dX3_nearSum_45 rfl (lv_at hl 0 rfl) ?_
  refine g_getI hx hb hts inlX3 hown hK hP 37 ct_37 rfl 8 (by decide) (hts _ wm_41_16) rfl dX3_nearSum_46 ?_
  refine lv_iadd hx hb dX3_nearSum_49 ?_
  refine lv_i2l hx hb dX3_nearSum_50 rfl ?_
  refine lv_iload hx hb dX3_nearSum_51 (lv_at hl 3 rfl) ?_
  refine lv_iload_n hx hb dX3_nearSum_53 rfl (lv_at hl 1 rfl) ?_
  refine lv_isub hx hb dX3_nearSum_54 ?_
  refine lv_i2l hx hb dX3_nearSum_55 rfl ?_
  refine lv_lmul hx hb dX3_nearSum_56 ?_
  refine lv_ladd hx hb dX3_nearSum_57 ?_
  refine lv_lstore (lv' := [(5, .long (v5 + (((((st.1 37 9) + (st.1 37 7)) + (st.1 37 8)).toInt64) * ((v4 - v1).toInt64)))), (0, .ref (ad 37)), (1, .int v1), (2, .long v2), (4, .int v4)]) hx hb dX3_nearSum_58 hl (by decide) rfl (fun ls hl => ?_)
  exact wX3_nearSum_s60 C n K5 v1 v2 v4 (v5 + (((((st.1 37 9) + (st.1 37 7)) + (st.1 37 8)).toInt64) * ((v4 - v1).toInt64))) st res hK5 hf H locs ls (lv_sub hl [1, 2, 3, 4, 0] rfl) hP hS
def fX3_nearSum_s15 (n : Nat) (K5 : Int32 → Int64 → Int32 → St → Option (Int64 × St))  (v1 : Int32) (v2 : Int64) (v4 : Int32) (st : St) : Option (Int64 × St) := if v4 ≤ v1 then fX3_nearSum_s60 n K5 v1 v2 v4 (((st.1 37 7).toInt64) * ((v1 - v4).toInt64)) st else fX3_nearSum_s34 n K5 v1 v2 v4 (((st.1 37 7).toInt64) * ((v1 - v4).toInt64)) st
set_option maxHeartbeats 4000000 in
set_option maxRecDepth 100000 in
theorem wX3_nearSum_s15 (C : Cx p s m args meth c cX3_nearSum 7 wsL_law RX3 (some .long) D G ad) (n : Nat) (K5 : Int32 → Int64 → Int32 → St → Option (Int64 × St))  (v1 : Int32) (v2 : Int64) (v4 : Int32)   (st : St) (res : (Int64 × St)) (hK5 : ∀ (v1 : Int32) (v2 : Int64) (v4 : Int32) (st : St), K5 v1 v2 v4 st = some res → At p l e (rmK 0) s m args below meth c D G ad (MQJ D G ad below args s res) 7 st [(0, .ref (ad 37)), (1, .int v1), (2, .long v2), (4, .int v4)] 5 []) (hf : fX3_nearSum_s15 n K5  v1 v2 v4 st = some res) : At p l e (rmK 0) s m args below meth c D G ad (MQJ D G ad below args s res) 7 st [(0, .ref (ad 37)), (1, .int v1), (2, .long v2), (4, .int v4)] 15 [] := by
  obtain ⟨hx, hb, hml, hown, hts, hr, hlk, hK, had, hSt⟩ := id C
  intro H locs ls hl hP hS
  unfold fX3_nearSum_s15 at hf
  refine lv_aload_n hx hb dX3_nearSum_15 rfl (lv_at hl 0 rfl) ?_
  refine g_getI hx hb hts inlX3 hown hK hP 37 ct_37 rfl 7 (by decide) (hts _ wm_41_15) rfl dX3_nearSum_16 ?_
  refine lv_i2l hx hb dX3_nearSum_19 rfl ?_
  refine lv_iload_n hx hb dX3_nearSum_20 rfl (lv_at hl 1 rfl) ?_
  refine lv_iload hx hb dX3_nearSum_21 (lv_at hl 3 rfl) ?_
  refine lv_isub hx hb dX3_nearSum_23 ?_
  refine lv_i2l hx hb dX3_nearSum_24 rfl ?_
  refine lv_lmul hx hb dX3_nearSum_25 ?_
  refine lv_lstore (lv' := [(5, .long (((st.1 37 7).toInt64) * ((v1 - v4).toInt64))), (0, .ref (ad 37)), (1, .int v1), (2, .long v2), (4, .int v4)]) hx hb dX3_nearSum_26 hl (by decide) rfl (fun ls hl => ?_)
  refine lv_iload hx hb dX3_nearSum_28 (lv_at hl 4 rfl) ?_
  refine lv_iload_n hx hb dX3_nearSum_30 rfl (lv_at hl 2 rfl) ?_
  refine lv_icmp_le (tgt := 60) hx hb dX3_nearSum_31 (by decide) (fun q => ?_) (fun q => ?_)
  · exact wX3_nearSum_s60 C n K5 v1 v2 v4 (((st.1 37 7).toInt64) * ((v1 - v4).toInt64)) st res hK5 (it hf q) H locs ls (lv_sub hl [1, 2, 3, 4, 0] rfl) hP hS
  · exact wX3_nearSum_s34 C n K5 v1 v2 v4 (((st.1 37 7).toInt64) * ((v1 - v4).toInt64)) st res hK5 (ie hf q) H locs ls (lv_sub hl [1, 2, 3, 4, 0] rfl) hP hS
def fX3_nearSum_s5 (n : Nat) (K5 : Int32 → Int64 → Int32 → St → Option (Int64 × St))  (v1 : Int32) (v2 : Int64) (v4 : Int32) (st : St) : Option (Int64 × St) := if 17 ≤ v4 then fX3_nearSum_s79 n v2 st else fX3_nearSum_s15 n K5 v1 v2 v4 st
set_option maxHeartbeats 4000000 in
set_option maxRecDepth 100000 in
theorem wX3_nearSum_s5 (C : Cx p s m args meth c cX3_nearSum 7 wsL_law RX3 (some .long) D G ad) (n : Nat) (K5 : Int32 → Int64 → Int32 → St → Option (Int64 × St))  (v1 : Int32) (v2 : Int64) (v4 : Int32)   (st : St) (res : (Int64 × St)) (hK5 : ∀ (v1 : Int32) (v2 : Int64) (v4 : Int32) (st : St), K5 v1 v2 v4 st = some res → At p l e (rmK 0) s m args below meth c D G ad (MQJ D G ad below args s res) 7 st [(0, .ref (ad 37)), (1, .int v1), (2, .long v2), (4, .int v4)] 5 []) (hf : fX3_nearSum_s5 n K5  v1 v2 v4 st = some res) : At p l e (rmK 0) s m args below meth c D G ad (MQJ D G ad below args s res) 7 st [(0, .ref (ad 37)), (1, .int v1), (2, .long v2), (4, .int v4)] 5 [] := by
  obtain ⟨hx, hb, hml, hown, hts, hr, hlk, hK, had, hSt⟩ := id C
  intro H locs ls hl hP hS
  unfold fX3_nearSum_s5 at hf
  refine lv_iload hx hb dX3_nearSum_5 (lv_at hl 3 rfl) ?_
  refine lv_aload_n hx hb dX3_nearSum_7 rfl (lv_at hl 0 rfl) ?_
  refine g_getR hx hb hts inlX3 hown hK hP 37 ct_37 rfl 2 (by decide) (hts _ wm_6_0) rfl dX3_nearSum_8 ?_
  refine g_alen hx hb hK hP 40 ct_40 dX3_nearSum_11 ?_
  refine lv_topc (v := 17) (by decide) ?_
  refine lv_icmp_ge (tgt := 79) hx hb dX3_nearSum_12 (by decide) (fun q => ?_) (fun q => ?_)
  · exact wX3_nearSum_s79 C n v2 st res (it hf q) H locs ls (lv_sub hl [2] rfl) hP hS
  · exact wX3_nearSum_s15 C n K5 v1 v2 v4 st res hK5 (ie hf q) H locs ls (lv_sub hl [0, 1, 2, 3] rfl) hP hS
def fX3_nearSum_L5 (n : Nat)   : Nat → Int32 → Int64 → Int32 → St → Option (Int64 × St)
  | 0, _, _, _, _ => none
  | k + 1, v1, v2, v4, st => fX3_nearSum_s5 n (fX3_nearSum_L5 n k)  v1 v2 v4 st
theorem wX3_nearSum_L5 (C : Cx p s m args meth c cX3_nearSum 7 wsL_law RX3 (some .long) D G ad) (n : Nat)    (res : (Int64 × St))  : ∀ (k : Nat) (v1 : Int32) (v2 : Int64) (v4 : Int32)  (st : St), fX3_nearSum_L5 n k v1 v2 v4 st = some res → At p l e (rmK 0) s m args below meth c D G ad (MQJ D G ad below args s res) 7 st [(0, .ref (ad 37)), (1, .int v1), (2, .long v2), (4, .int v4)] 5 [] := by
  intro k
  induction k with
  | zero => intro v1 v2 v4  st h; exact absurd h (by intro q; cases q)
  | succ k ih => intro v1 v2 v4  st h; exact wX3_nearSum_s5 C n (fX3_nearSum_L5 n k)  v1 v2 v4   st res ih h
def fX3_nearSum_s0 (n : Nat)   (v1 : Int32) (st : St) : Option (Int64 × St) := fX3_nearSum_L5 n n v1 0 0 st
set_option maxHeartbeats 4000000 in
set_option maxRecDepth 100000 in
theorem wX3_nearSum_s0 (C : Cx p s m args meth c cX3_nearSum 7 wsL_law RX3 (some .long) D G ad) (n : Nat)   (v1 : Int32)   (st : St) (res : (Int64 × St))  (hf : fX3_nearSum_s0 n   v1 st = some res) : At p l e (rmK 0) s m args below meth c D G ad (MQJ D G ad below args s res) 7 st [(0, .ref (ad 37)), (1, .int v1)] 0 [] := by
  obtain ⟨hx, hb, hml, hown, hts, hr, hlk, hK, had, hSt⟩ := id C
  intro H locs ls hl hP hS
  unfold fX3_nearSum_s0 at hf
  refine lv_lconst (v := 0) hx hb dX3_nearSum_0 (by decide) ?_
  refine lv_lstore_n (lv' := [(2, .long 0), (0, .ref (ad 37)), (1, .int v1)]) hx hb dX3_nearSum_1 rfl hl (by decide) rfl (fun ls hl => ?_)
  refine lv_iconst (v := 0) hx hb dX3_nearSum_2 (by decide) ?_
  refine lv_istore (lv' := [(4, .int 0), (2, .long 0), (0, .ref (ad 37)), (1, .int v1)]) hx hb dX3_nearSum_3 hl (by decide) rfl (fun ls hl => ?_)
  exact wX3_nearSum_L5 C n res n v1 0 0 st hf H locs ls (lv_sub hl [2, 3, 1, 0] rfl) hP hS
def fX3_nearSum (n : Nat)  (a1 : Int32) (st : St) : Option (Int64 × St) := fX3_nearSum_s0 n a1 st
theorem okX3_nearSum : okY yX3_nearSum RX3 1 := by unfold okY; decide +kernel
end
set_option maxRecDepth 100000 in
theorem kX3_nearSum (l : Launch) (D : va_G) (G : G3) (ad : Nat → Nat) (had : Adr ad) (n : Nat)   (a1 : Int32) (st : St) (res : (Int64 × St)) (hf : fX3_nearSum n  a1 st = some res) {sz : Nat} : CtJ l yX3_nearSum (wsU yX3_nearSum cX3_nearSum 7 (some .long)) (rmK 0) D G ad sz [.ref (ad 37), .int a1] st res := by
  refine Met.ofW (cc := cX3_nearSum) (maxL := 7) (ret := (some .long)) (by decide) rfl ?_
  intro p e s m args below meth c s₁ B hml hv
  obtain ⟨rfl, hsz, hP, hK, hSt⟩ := hv
  have hts := atoms_spec (ws := wsU yX3_nearSum cX3_nearSum 7 (some .long)) B.pre
  have C : Cx p s m _ meth c cX3_nearSum 7 wsL_law RX3 (some .long) D G ad := ⟨B.exec, B.bytes, hml, findClass_of_methodNamed B.named, fun w h => hts w (List.mem_cons_of_mem _ h), B.returns, B.notSynchronized, hK, had, hSt⟩
  subst hsz
  have hl := lv_entry ([.ref (ad 37), .int a1]) (n := 7) (Nat.le_of_ble_eq_true rfl)
  rw [lg_entry_eq]
  generalize (lg_sl ([.ref (ad 37), .int a1]) ++ List.replicate (7 - (lg_sl ([.ref (ad 37), .int a1])).length) Slot.unset).toArray = ls at hl ⊢
  exact wX3_nearSum_s0 C n  a1   st res hf s.heap [] ls (lv_sub hl [0, 1] rfl) hP va_S.rf
section
variable {p : Program} {l : Launch} {e : Env} {s : State} {m : MethodId} {args : Array Value} {below : List Frame} {meth : Method} {c : Code} {D : va_G} {G : G3} {ad : Nat → Nat}
def fX3_work_s145 (n : Nat)    (st : St) : Option (Unit × St) := some ((), st)
set_option maxHeartbeats 4000000 in
set_option maxRecDepth 100000 in
theorem wX3_work_s145 (C : Cx p s m args meth c cX3_work 6 wsL_law RX3 none D G ad) (n : Nat)      (st : St) (res : (Unit × St))  (hf : fX3_work_s145 n    st = some res) : At p l e (rmK 2) s m args below meth c D G ad (MQV D G ad below args s res) 6 st [] 145 [] := by
  obtain ⟨hx, hb, hml, hown, hts, hr, hlk, hK, had, hSt⟩ := id C
  intro H locs ls hl hP hS
  unfold fX3_work_s145 at hf
  exact g_vret hx hb hr hlk hP hS dX3_work_145 hf
def fX3_work_s139 (n : Nat) (K104 : Int32 → St → Option (Unit × St))  (v1 : Int32) (st : St) : Option (Unit × St) := K104 (v1 + 1) st
set_option maxHeartbeats 4000000 in
set_option maxRecDepth 100000 in
theorem wX3_work_s139 (C : Cx p s m args meth c cX3_work 6 wsL_law RX3 none D G ad) (n : Nat) (K104 : Int32 → St → Option (Unit × St))  (v1 : Int32)   (st : St) (res : (Unit × St)) (hK104 : ∀ (v1 : Int32) (st : St), K104 v1 st = some res → At p l e (rmK 2) s m args below meth c D G ad (MQV D G ad below args s res) 6 st [(0, .ref (ad 37)), (1, .int v1)] 104 []) (hf : fX3_work_s139 n K104  v1 st = some res) : At p l e (rmK 2) s m args below meth c D G ad (MQV D G ad below args s res) 6 st [(0, .ref (ad 37)), (1, .int v1)] 139 [] := by
  obtain ⟨hx, hb, hml, hown, hts, hr, hlk, hK, had, hSt⟩ := id C
  intro H locs ls hl hP hS
  unfold fX3_work_s139 at hf
  refine lv_iinc (v := v1 + 1) (lv' := [(1, .int (v1 + 1)), (0, .ref (ad 37))]) hx hb dX3_work_139 hl (k := 1) rfl rfl (by decide) rfl (fun ls hl => ?_)
  refine lv_goto (tgt := 104) hx hb dX3_work_142 (by decide) ?_
  exact hK104 (v1 + 1)  st hf H locs ls (lv_sub hl [1, 0] rfl) hP hS
def fX3_work_s136 (n : Nat) (K104 : Int32 → St → Option (Unit × St))  (v1 : Int32) (k1 : Int32) (st : St) : Option (Unit × St) := fX3_work_s139 n K104 v1 (setI st 37 10 k1)
set_option maxHeartbeats 4000000 in
set_option maxRecDepth 100000 in
theorem wX3_work_s136 (C : Cx p s m args meth c cX3_work 6 wsL_law RX3 none D G ad) (n : Nat) (K104 : Int32 → St → Option (Unit × St))  (v1 : Int32) (k1 : Int32)   (st : St) (res : (Unit × St)) (hK104 : ∀ (v1 : Int32) (st : St), K104 v1 st = some res → At p l e (rmK 2) s m args below meth c D G ad (MQV D G ad below args s res) 6 st [(0, .ref (ad 37)), (1, .int v1)] 104 []) (hf : fX3_work_s136 n K104  v1 k1 st = some res) : At p l e (rmK 2) s m args below meth c D G ad (MQV D G ad below args s res) 6 st [(0, .ref (ad 37)), (1, .int v1)] 136 [.int k1, .ref (ad 37)] := by
  obtain ⟨hx, hb, hml, hown, hts, hr, hlk, hK, had, hSt⟩ := id C
  intro H locs ls hl hP hS
  unfold fX3_work_s136 at hf
  refine g_putI hx hb hts inlX3 tyX3_ok nmX3 hown hK had hP hS 37 ct_37 rfl 10 (by decide) (hts _ wm_41_23) rfl rfl rfl rfl rfl dX3_work_136 (fun H locs hP hS => ?_)
  exact wX3_work_s139 C n K104 v1 (setI st 37 10 k1) res hK104 hf H locs ls (lv_sub hl [0, 1] rfl) hP hS
def fX3_work_s132 (n : Nat) (K104 : Int32 → St → Option (Unit × St))  (v1 : Int32) (st : St) : Option (Unit × St) := fX3_work_s136 n K104 v1 (st.1 37 10) st
set_option maxHeartbeats 4000000 in
set_option maxRecDepth 100000 in
theorem wX3_work_s132 (C : Cx p s m args meth c cX3_work 6 wsL_law RX3 none D G ad) (n : Nat) (K104 : Int32 → St → Option (Unit × St))  (v1 : Int32)   (st : St) (res : (Unit × St)) (hK104 : ∀ (v1 : Int32) (st : St), K104 v1 st = some res → At p l e (rmK 2) s m args below meth c D G ad (MQV D G ad below args s res) 6 st [(0, .ref (ad 37)), (1, .int v1)] 104 []) (hf : fX3_work_s132 n K104  v1 st = some res) : At p l e (rmK 2) s m args below meth c D G ad (MQV D G ad below args s res) 6 st [(0, .ref (ad 37)), (1, .int v1)] 132 [.ref (ad 37)] := by
  obtain ⟨hx, hb, hml, hown, hts, hr, hlk, hK, had, hSt⟩ := id C
  intro H locs ls hl hP hS
  unfold fX3_work_s132 at hf
  refine lv_aload_n hx hb dX3_work_132 rfl (lv_at hl 0 rfl) ?_
  refine g_getI hx hb hts inlX3 hown hK hP 37 ct_37 rfl 10 (by decide) (hts _ wm_41_23) rfl dX3_work_133 ?_
  exact wX3_work_s136 C n K104 v1 (st.1 37 10) st res hK104 hf H locs ls (lv_sub hl [0, 1] rfl) hP hS
def fX3_work_s128 (n : Nat) (K104 : Int32 → St → Option (Unit × St))  (v1 : Int32) (st : St) : Option (Unit × St) := fX3_work_s136 n K104 v1 v1 st
set_option maxHeartbeats 4000000 in
set_option maxRecDepth 100000 in
theorem wX3_work_s128 (C : Cx p s m args meth c cX3_work 6 wsL_law RX3 none D G ad) (n : Nat) (K104 : Int32 → St → Option (Unit × St))  (v1 : Int32)   (st : St) (res : (Unit × St)) (hK104 : ∀ (v1 : Int32) (st : St), K104 v1 st = some res → At p l e (rmK 2) s m args below meth c D G ad (MQV D G ad below args s res) 6 st [(0, .ref (ad 37)), (1, .int v1)] 104 []) (hf : fX3_work_s128 n K104  v1 st = some res) : At p l e (rmK 2) s m args below meth c D G ad (MQV D G ad below args s res) 6 st [(0, .ref (ad 37)), (1, .int v1)] 128 [.ref (ad 37)] := by
  obtain ⟨hx, hb, hml, hown, hts, hr, hlk, hK, had, hSt⟩ := id C
  intro H locs ls hl hP hS
  unfold fX3_work_s128 at hf
  refine lv_iload_n hx hb dX3_work_128 rfl (lv_at hl 1 rfl) ?_
  refine lv_goto (tgt := 136) hx hb dX3_work_129 (by decide) ?_
  exact wX3_work_s136 C n K104 v1 v1 st res hK104 hf H locs ls (lv_sub hl [0, 1] rfl) hP hS
def fX3_work_s124 (n : Nat) (K104 : Int32 → St → Option (Unit × St))  (v1 : Int32) (k1 : Int64) (k2 : Int64) (st : St) : Option (Unit × St) := if k2 ≤ k1 then fX3_work_s132 n K104 v1 st else fX3_work_s128 n K104 v1 st
set_option maxHeartbeats 4000000 in
set_option maxRecDepth 100000 in
theorem wX3_work_s124 (C : Cx p s m args meth c cX3_work 6 wsL_law RX3 none D G ad) (n : Nat) (K104 : Int32 → St → Option (Unit × St))  (v1 : Int32) (k1 : Int64) (k2 : Int64)   (st : St) (res : (Unit × St)) (hK104 : ∀ (v1 : Int32) (st : St), K104 v1 st = some res → At p l e (rmK 2) s m args below meth c D G ad (MQV D G ad below args s res) 6 st [(0, .ref (ad 37)), (1, .int v1)] 104 []) (hf : fX3_work_s124 n K104  v1 k1 k2 st = some res) : At p l e (rmK 2) s m args below meth c D G ad (MQV D G ad below args s res) 6 st [(0, .ref (ad 37)), (1, .int v1)] 124 [.long k2, .long k1, .ref (ad 37)] := by
  obtain ⟨hx, hb, hml, hown, hts, hr, hlk, hK, had, hSt⟩ := id C
  intro H locs ls hl hP hS
  unfold fX3_work_s124 at hf
  refine g_lcmp_ge (tgt := 132) hx hb dX3_work_124 dX3_work_125 (by decide) (fun q => ?_) (fun q => ?_)
  · exact wX3_work_s132 C n K104 v1 st res hK104 (it hf q) H locs ls (lv_sub hl [0, 1] rfl) hP hS
  · exact wX3_work_s128 C n K104 v1 st res hK104 (ie hf q) H locs ls (lv_sub hl [0, 1] rfl) hP hS
def fX3_work_s116 (n : Nat) (K104 : Int32 → St → Option (Unit × St))  (v1 : Int32) (k1 : Int64) (st : St) : Option (Unit × St) := (fX3_nearCost n (st.1 37 10) st).bind (fun q => fX3_work_s124 n K104 v1 k1 q.1 q.2)
set_option maxHeartbeats 4000000 in
set_option maxRecDepth 100000 in
theorem wX3_work_s116 (C : Cx p s m args meth c cX3_work 6 wsL_law RX3 none D G ad) (n : Nat) (K104 : Int32 → St → Option (Unit × St))  (v1 : Int32) (k1 : Int64)   (st : St) (res : (Unit × St)) (hK104 : ∀ (v1 : Int32) (st : St), K104 v1 st = some res → At p l e (rmK 2) s m args below meth c D G ad (MQV D G ad below args s res) 6 st [(0, .ref (ad 37)), (1, .int v1)] 104 []) (hf : fX3_work_s116 n K104  v1 k1 st = some res) : At p l e (rmK 2) s m args below meth c D G ad (MQV D G ad below args s res) 6 st [(0, .ref (ad 37)), (1, .int v1)] 116 [.long k1, .ref (ad 37)] := by
  obtain ⟨hx, hb, hml, hown, hts, hr, hlk, hK, had, hSt⟩ := id C
  intro H locs ls hl hP hS
  unfold fX3_work_s116 at hf
  refine lv_aload_n hx hb dX3_work_116 rfl (lv_at hl 0 rfl) ?_
  refine lv_aload_n hx hb dX3_work_117 rfl (lv_at hl 0 rfl) ?_
  refine g_getI hx hb hts inlX3 hown hK hP 37 ct_37 rfl 10 (by decide) (hts _ wm_41_23) rfl dX3_work_118 ?_
  obtain ⟨q, hq, hf⟩ := bd hf
  refine gcV_j (k := 1) (o := 37) (As := [.int (st.1 37 10)]) (rest := [.long k1, .ref (ad 37)]) hx hb hml hown hts hK hSt hP hS hl.1 (goodV wm_42_5 wm_42_6 wm_42_7 wm_2_19 wm_42_8) okX3_nearCost ct_37 rfl rfl (Nat.le_of_ble_eq_true rfl) (Nat.le_of_ble_eq_true rfl) rfl rfl (Nat.le_of_ble_eq_true rfl) dX3_work_121 (kX3_nearCost l D G ad had n  (st.1 37 10) st q hq) (fun H locs hP hS => ?_)
  exact wX3_work_s124 C n K104 v1 k1 q.1 q.2 res hK104 hf H locs ls (lv_sub hl [0, 1] rfl) hP hS
def fX3_work_s110 (n : Nat) (K104 : Int32 → St → Option (Unit × St))  (v1 : Int32) (st : St) : Option (Unit × St) := (fX3_nearCost n v1 st).bind (fun q => fX3_work_s116 n K104 v1 q.1 q.2)
set_option maxHeartbeats 4000000 in
set_option maxRecDepth 100000 in
theorem wX3_work_s110 (C : Cx p s m args meth c cX3_work 6 wsL_law RX3 none D G ad) (n : Nat) (K104 : Int32 → St → Option (Unit × St))  (v1 : Int32)   (st : St) (res : (Unit × St)) (hK104 : ∀ (v1 : Int32) (st : St), K104 v1 st = some res → At p l e (rmK 2) s m args below meth c D G ad (MQV D G ad below args s res) 6 st [(0, .ref (ad 37)), (1, .int v1)] 104 []) (hf : fX3_work_s110 n K104  v1 st = some res) : At p l e (rmK 2) s m args below meth c D G ad (MQV D G ad below args s res) 6 st [(0, .ref (ad 37)), (1, .int v1)] 110 [] := by
  obtain ⟨hx, hb, hml, hown, hts, hr, hlk, hK, had, hSt⟩ := id C
  intro H locs ls hl hP hS
  unfold fX3_work_s110 at hf
  refine lv_aload_n hx hb dX3_work_110 rfl (lv_at hl 0 rfl) ?_
  refine lv_aload_n hx hb dX3_work_111 rfl (lv_at hl 0 rfl) ?_
  refine lv_iload_n hx hb dX3_work_112 rfl (lv_at hl 1 rfl) ?_
  obtain ⟨q, hq, hf⟩ := bd hf
  refine gcV_j (k := 1) (o := 37) (As := [.int v1]) (rest := [.ref (ad 37)]) hx hb hml hown hts hK hSt hP hS hl.1 (goodV wm_42_5 wm_42_6 wm_42_7 wm_2_19 wm_42_8) okX3_nearCost ct_37 rfl rfl (Nat.le_of_ble_eq_true rfl) (Nat.le_of_ble_eq_true rfl) rfl rfl (Nat.le_of_ble_eq_true rfl) dX3_work_113 (kX3_nearCost l D G ad had n  v1 st q hq) (fun H locs hP hS => ?_)
  exact wX3_work_s116 C n K104 v1 q.1 q.2 res hK104 hf H locs ls (lv_sub hl [0, 1] rfl) hP hS
def fX3_work_s104 (n : Nat) (K104 : Int32 → St → Option (Unit × St))  (v1 : Int32) (st : St) : Option (Unit × St) := if 30 < v1 then fX3_work_s145 n st else fX3_work_s110 n K104 v1 st
set_option maxHeartbeats 4000000 in
set_option maxRecDepth 100000 in
theorem wX3_work_s104 (C : Cx p s m args meth c cX3_work 6 wsL_law RX3 none D G ad) (n : Nat) (K104 : Int32 → St → Option (Unit × St))  (v1 : Int32)   (st : St) (res : (Unit × St)) (hK104 : ∀ (v1 : Int32) (st : St), K104 v1 st = some res → At p l e (rmK 2) s m args below meth c D G ad (MQV D G ad below args s res) 6 st [(0, .ref (ad 37)), (1, .int v1)] 104 []) (hf : fX3_work_s104 n K104  v1 st = some res) : At p l e (rmK 2) s m args below meth c D G ad (MQV D G ad below args s res) 6 st [(0, .ref (ad 37)), (1, .int v1)] 104 [] := by
  obtain ⟨hx, hb, hml, hown, hts, hr, hlk, hK, had, hSt⟩ := id C
  intro H locs ls hl hP hS
  unfold fX3_work_s104 at hf
  refine lv_iload_n hx hb dX3_work_104 rfl (lv_at hl 1 rfl) ?_
  refine lv_bipush (v := 30) hx hb dX3_work_105 (by decide) ?_
  refine lv_icmp_gt (tgt := 145) hx hb dX3_work_107 (by decide) (fun q => ?_) (fun q => ?_)
  · exact wX3_work_s145 C n st res (it hf q) H locs ls (lv_sub hl [] rfl) hP hS
  · exact wX3_work_s110 C n K104 v1 st res hK104 (ie hf q) H locs ls (lv_sub hl [0, 1] rfl) hP hS
def fX3_work_L104 (n : Nat)   : Nat → Int32 → St → Option (Unit × St)
  | 0, _, _ => none
  | k + 1, v1, st => fX3_work_s104 n (fX3_work_L104 n k)  v1 st
theorem wX3_work_L104 (C : Cx p s m args meth c cX3_work 6 wsL_law RX3 none D G ad) (n : Nat)    (res : (Unit × St))  : ∀ (k : Nat) (v1 : Int32)  (st : St), fX3_work_L104 n k v1 st = some res → At p l e (rmK 2) s m args below meth c D G ad (MQV D G ad below args s res) 6 st [(0, .ref (ad 37)), (1, .int v1)] 104 [] := by
  intro k
  induction k with
  | zero => intro v1  st h; exact absurd h (by intro q; cases q)
  | succ k ih => intro v1  st h; exact wX3_work_s104 C n (fX3_work_L104 n k)  v1   st res ih h
def fX3_work_s102 (n : Nat)    (st : St) : Option (Unit × St) := fX3_work_L104 n n 1 st
set_option maxHeartbeats 4000000 in
set_option maxRecDepth 100000 in
theorem wX3_work_s102 (C : Cx p s m args meth c cX3_work 6 wsL_law RX3 none D G ad) (n : Nat)      (st : St) (res : (Unit × St))  (hf : fX3_work_s102 n    st = some res) : At p l e (rmK 2) s m args below meth c D G ad (MQV D G ad below args s res) 6 st [(0, .ref (ad 37))] 102 [] := by
  obtain ⟨hx, hb, hml, hown, hts, hr, hlk, hK, had, hSt⟩ := id C
  intro H locs ls hl hP hS
  unfold fX3_work_s102 at hf
  refine lv_iconst (v := 1) hx hb dX3_work_102 (by decide) ?_
  refine lv_istore_n (lv' := [(1, .int 1), (0, .ref (ad 37))]) hx hb dX3_work_103 rfl hl (by decide) rfl (fun ls hl => ?_)
  exact wX3_work_L104 C n res n 1 st hf H locs ls (lv_sub hl [1, 0] rfl) hP hS
def fX3_work_s97 (n : Nat)    (st : St) : Option (Unit × St) := fX3_work_s102 n (setI st 37 10 0)
set_option maxHeartbeats 4000000 in
set_option maxRecDepth 100000 in
theorem wX3_work_s97 (C : Cx p s m args meth c cX3_work 6 wsL_law RX3 none D G ad) (n : Nat)      (st : St) (res : (Unit × St))  (hf : fX3_work_s97 n    st = some res) : At p l e (rmK 2) s m args below meth c D G ad (MQV D G ad below args s res) 6 st [(0, .ref (ad 37))] 97 [] := by
  obtain ⟨hx, hb, hml, hown, hts, hr, hlk, hK, had, hSt⟩ := id C
  intro H locs ls hl hP hS
  unfold fX3_work_s97 at hf
  refine lv_aload_n hx hb dX3_work_97 rfl (lv_at hl 0 rfl) ?_
  refine lv_iconst (v := 0) hx hb dX3_work_98 (by decide) ?_
  refine g_putI hx hb hts inlX3 tyX3_ok nmX3 hown hK had hP hS 37 ct_37 rfl 10 (by decide) (hts _ wm_41_23) rfl rfl rfl rfl rfl dX3_work_99 (fun H locs hP hS => ?_)
  exact wX3_work_s102 C n (setI st 37 10 0) res hf H locs ls (lv_sub hl [0] rfl) hP hS
def fX3_work_s91 (n : Nat) (K71 : Int32 → St → Option (Unit × St))  (v1 : Int32) (st : St) : Option (Unit × St) := K71 (v1 + 1) st
set_option maxHeartbeats 4000000 in
set_option maxRecDepth 100000 in
theorem wX3_work_s91 (C : Cx p s m args meth c cX3_work 6 wsL_law RX3 none D G ad) (n : Nat) (K71 : Int32 → St → Option (Unit × St))  (v1 : Int32)   (st : St) (res : (Unit × St)) (hK71 : ∀ (v1 : Int32) (st : St), K71 v1 st = some res → At p l e (rmK 2) s m args below meth c D G ad (MQV D G ad below args s res) 6 st [(0, .ref (ad 37)), (1, .int v1)] 71 []) (hf : fX3_work_s91 n K71  v1 st = some res) : At p l e (rmK 2) s m args below meth c D G ad (MQV D G ad below args s res) 6 st [(0, .ref (ad 37)), (1, .int v1)] 91 [] := by
  obtain ⟨hx, hb, hml, hown, hts, hr, hlk, hK, had, hSt⟩ := id C
  intro H locs ls hl hP hS
  unfold fX3_work_s91 at hf
  refine lv_iinc (v := v1 + 1) (lv' := [(1, .int (v1 + 1)), (0, .ref (ad 37))]) hx hb dX3_work_91 hl (k := 1) rfl rfl (by decide) rfl (fun ls hl => ?_)
  refine lv_goto (tgt := 71) hx hb dX3_work_94 (by decide) ?_
  exact hK71 (v1 + 1)  st hf H locs ls (lv_sub hl [1, 0] rfl) hP hS
def fX3_work_s90 (n : Nat) (K71 : Int32 → St → Option (Unit × St))  (v1 : Int32) (k1 : Int32) (k2 : Int64) (st : St) : Option (Unit × St) := if inb k1 73 = true then (fX3_work_s91 n K71 v1 (setJ st 42 k1.toNatClampNeg k2)) else none
set_option maxHeartbeats 4000000 in
set_option maxRecDepth 100000 in
theorem wX3_work_s90 (C : Cx p s m args meth c cX3_work 6 wsL_law RX3 none D G ad) (n : Nat) (K71 : Int32 → St → Option (Unit × St))  (v1 : Int32) (k1 : Int32) (k2 : Int64)   (st : St) (res : (Unit × St)) (hK71 : ∀ (v1 : Int32) (st : St), K71 v1 st = some res → At p l e (rmK 2) s m args below meth c D G ad (MQV D G ad below args s res) 6 st [(0, .ref (ad 37)), (1, .int v1)] 71 []) (hf : fX3_work_s90 n K71  v1 k1 k2 st = some res) : At p l e (rmK 2) s m args below meth c D G ad (MQV D G ad below args s res) 6 st [(0, .ref (ad 37)), (1, .int v1)] 90 [.long k2, .int k1, .ref (ad 42)] := by
  obtain ⟨hx, hb, hml, hown, hts, hr, hlk, hK, had, hSt⟩ := id C
  intro H locs ls hl hP hS
  unfold fX3_work_s90 at hf
  obtain ⟨g1, hf⟩ := gd hf
  refine g_last hx hb hK had hP hS 42 ct_42 g1 dX3_work_90 (fun H locs hP hS => ?_)
  exact wX3_work_s91 C n K71 v1 (setJ st 42 k1.toNatClampNeg k2) res hK71 hf H locs ls (lv_sub hl [0, 1] rfl) hP hS
def fX3_work_s77 (n : Nat) (K71 : Int32 → St → Option (Unit × St))  (v1 : Int32) (st : St) : Option (Unit × St) := (fX3_nearSum n v1 st).bind (fun q => fX3_work_s90 n K71 v1 (v1 - (-42)) q.1 q.2)
set_option maxHeartbeats 4000000 in
set_option maxRecDepth 100000 in
theorem wX3_work_s77 (C : Cx p s m args meth c cX3_work 6 wsL_law RX3 none D G ad) (n : Nat) (K71 : Int32 → St → Option (Unit × St))  (v1 : Int32)   (st : St) (res : (Unit × St)) (hK71 : ∀ (v1 : Int32) (st : St), K71 v1 st = some res → At p l e (rmK 2) s m args below meth c D G ad (MQV D G ad below args s res) 6 st [(0, .ref (ad 37)), (1, .int v1)] 71 []) (hf : fX3_work_s77 n K71  v1 st = some res) : At p l e (rmK 2) s m args below meth c D G ad (MQV D G ad below args s res) 6 st [(0, .ref (ad 37)), (1, .int v1)] 77 [] := by
  obtain ⟨hx, hb, hml, hown, hts, hr, hlk, hK, had, hSt⟩ := id C
  intro H locs ls hl hP hS
  unfold fX3_work_s77 at hf
  refine lv_aload_n hx hb dX3_work_77 rfl (lv_at hl 0 rfl) ?_
  refine g_getR hx hb hts inlX3 hown hK hP 37 ct_37 rfl 4 (by decide) (hts _ wm_6_2) rfl dX3_work_78 ?_
  refine lv_iload_n hx hb dX3_work_81 rfl (lv_at hl 1 rfl) ?_
  refine lv_bipush (v := (-42)) hx hb dX3_work_82 (by decide) ?_
  refine lv_isub hx hb dX3_work_84 ?_
  refine lv_aload_n hx hb dX3_work_85 rfl (lv_at hl 0 rfl) ?_
  refine lv_iload_n hx hb dX3_work_86 rfl (lv_at hl 1 rfl) ?_
  obtain ⟨q, hq, hf⟩ := bd hf
  refine gcV_j (k := 0) (o := 37) (As := [.int v1]) (rest := [.int (v1 - (-42)), .ref (ad 42)]) hx hb hml hown hts hK hSt hP hS hl.1 (goodV wm_42_1 wm_42_2 wm_42_3 wm_2_19 wm_42_4) okX3_nearSum ct_37 rfl rfl (Nat.le_of_ble_eq_true rfl) (Nat.le_of_ble_eq_true rfl) rfl rfl (Nat.le_of_ble_eq_true rfl) dX3_work_87 (kX3_nearSum l D G ad had n  v1 st q hq) (fun H locs hP hS => ?_)
  exact wX3_work_s90 C n K71 v1 (v1 - (-42)) q.1 q.2 res hK71 hf H locs ls (lv_sub hl [0, 1] rfl) hP hS
def fX3_work_s71 (n : Nat) (K71 : Int32 → St → Option (Unit × St))  (v1 : Int32) (st : St) : Option (Unit × St) := if 30 < v1 then fX3_work_s97 n st else fX3_work_s77 n K71 v1 st
set_option maxHeartbeats 4000000 in
set_option maxRecDepth 100000 in
theorem wX3_work_s71 (C : Cx p s m args meth c cX3_work 6 wsL_law RX3 none D G ad) (n : Nat) (K71 : Int32 → St → Option (Unit × St))  (v1 : Int32)   (st : St) (res : (Unit × St)) (hK71 : ∀ (v1 : Int32) (st : St), K71 v1 st = some res → At p l e (rmK 2) s m args below meth c D G ad (MQV D G ad below args s res) 6 st [(0, .ref (ad 37)), (1, .int v1)] 71 []) (hf : fX3_work_s71 n K71  v1 st = some res) : At p l e (rmK 2) s m args below meth c D G ad (MQV D G ad below args s res) 6 st [(0, .ref (ad 37)), (1, .int v1)] 71 [] := by
  obtain ⟨hx, hb, hml, hown, hts, hr, hlk, hK, had, hSt⟩ := id C
  intro H locs ls hl hP hS
  unfold fX3_work_s71 at hf
  refine lv_iload_n hx hb dX3_work_71 rfl (lv_at hl 1 rfl) ?_
  refine lv_bipush (v := 30) hx hb dX3_work_72 (by decide) ?_
  refine lv_icmp_gt (tgt := 97) hx hb dX3_work_74 (by decide) (fun q => ?_) (fun q => ?_)
  · exact wX3_work_s97 C n st res (it hf q) H locs ls (lv_sub hl [0] rfl) hP hS
  · exact wX3_work_s77 C n K71 v1 st res hK71 (ie hf q) H locs ls (lv_sub hl [0, 1] rfl) hP hS
def fX3_work_L71 (n : Nat)   : Nat → Int32 → St → Option (Unit × St)
  | 0, _, _ => none
  | k + 1, v1, st => fX3_work_s71 n (fX3_work_L71 n k)  v1 st
theorem wX3_work_L71 (C : Cx p s m args meth c cX3_work 6 wsL_law RX3 none D G ad) (n : Nat)    (res : (Unit × St))  : ∀ (k : Nat) (v1 : Int32)  (st : St), fX3_work_L71 n k v1 st = some res → At p l e (rmK 2) s m args below meth c D G ad (MQV D G ad below args s res) 6 st [(0, .ref (ad 37)), (1, .int v1)] 71 [] := by
  intro k
  induction k with
  | zero => intro v1  st h; exact absurd h (by intro q; cases q)
  | succ k ih => intro v1  st h; exact wX3_work_s71 C n (fX3_work_L71 n k)  v1   st res ih h
def fX3_work_s68 (n : Nat)    (st : St) : Option (Unit × St) := fX3_work_L71 n n (-42) st
set_option maxHeartbeats 4000000 in
set_option maxRecDepth 100000 in
theorem wX3_work_s68 (C : Cx p s m args meth c cX3_work 6 wsL_law RX3 none D G ad) (n : Nat)      (st : St) (res : (Unit × St))  (hf : fX3_work_s68 n    st = some res) : At p l e (rmK 2) s m args below meth c D G ad (MQV D G ad below args s res) 6 st [(0, .ref (ad 37))] 68 [] := by
  obtain ⟨hx, hb, hml, hown, hts, hr, hlk, hK, had, hSt⟩ := id C
  intro H locs ls hl hP hS
  unfold fX3_work_s68 at hf
  refine lv_bipush (v := (-42)) hx hb dX3_work_68 (by decide) ?_
  refine lv_istore_n (lv' := [(1, .int (-42)), (0, .ref (ad 37))]) hx hb dX3_work_70 rfl hl (by decide) rfl (fun ls hl => ?_)
  exact wX3_work_L71 C n res n (-42) st hf H locs ls (lv_sub hl [1, 0] rfl) hP hS
def fX3_work_s62 (n : Nat) (K41 : Int32 → Int32 → St → Option (Unit × St))  (v2 : Int32) (v3 : Int32) (st : St) : Option (Unit × St) := K41 v2 (v3 + 1) st
set_option maxHeartbeats 4000000 in
set_option maxRecDepth 100000 in
theorem wX3_work_s62 (C : Cx p s m args meth c cX3_work 6 wsL_law RX3 none D G ad) (n : Nat) (K41 : Int32 → Int32 → St → Option (Unit × St))  (v2 : Int32) (v3 : Int32)   (st : St) (res : (Unit × St)) (hK41 : ∀ (v2 : Int32) (v3 : Int32) (st : St), K41 v2 v3 st = some res → At p l e (rmK 2) s m args below meth c D G ad (MQV D G ad below args s res) 6 st [(0, .ref (ad 37)), (1, .ref (ad 40)), (2, .int v2), (3, .int v3)] 41 []) (hf : fX3_work_s62 n K41  v2 v3 st = some res) : At p l e (rmK 2) s m args below meth c D G ad (MQV D G ad below args s res) 6 st [(0, .ref (ad 37)), (1, .ref (ad 40)), (2, .int v2), (3, .int v3)] 62 [] := by
  obtain ⟨hx, hb, hml, hown, hts, hr, hlk, hK, had, hSt⟩ := id C
  intro H locs ls hl hP hS
  unfold fX3_work_s62 at hf
  refine lv_iinc (v := v3 + 1) (lv' := [(3, .int (v3 + 1)), (0, .ref (ad 37)), (1, .ref (ad 40)), (2, .int v2)]) hx hb dX3_work_62 hl (k := 3) rfl rfl (by decide) rfl (fun ls hl => ?_)
  refine lv_goto (tgt := 41) hx hb dX3_work_65 (by decide) ?_
  exact hK41 v2 (v3 + 1)  st hf H locs ls (lv_sub hl [1, 2, 3, 0] rfl) hP hS
def fX3_work_s46 (n : Nat) (K41 : Int32 → Int32 → St → Option (Unit × St))  (v2 : Int32) (v3 : Int32) (st : St) : Option (Unit × St) := if inb v3 17 = true then (fX3_work_s62 n K41 v2 v3 (setJ st 37 11 ((st.2 37 11) + (st.2 40 v3.toNatClampNeg)))) else none
set_option maxHeartbeats 4000000 in
set_option maxRecDepth 100000 in
theorem wX3_work_s46 (C : Cx p s m args meth c cX3_work 6 wsL_law RX3 none D G ad) (n : Nat) (K41 : Int32 → Int32 → St → Option (Unit × St))  (v2 : Int32) (v3 : Int32)   (st : St) (res : (Unit × St)) (hK41 : ∀ (v2 : Int32) (v3 : Int32) (st : St), K41 v2 v3 st = some res → At p l e (rmK 2) s m args below meth c D G ad (MQV D G ad below args s res) 6 st [(0, .ref (ad 37)), (1, .ref (ad 40)), (2, .int v2), (3, .int v3)] 41 []) (hf : fX3_work_s46 n K41  v2 v3 st = some res) : At p l e (rmK 2) s m args below meth c D G ad (MQV D G ad below args s res) 6 st [(0, .ref (ad 37)), (1, .ref (ad 40)), (2, .int v2), (3, .int v3)] 46 [] := by
  obtain ⟨hx, hb, hml, hown, hts, hr, hlk, hK, had, hSt⟩ := id C
  intro H locs ls hl hP hS
  unfold fX3_work_s46 at hf
  refine lv_aload_n hx hb dX3_work_46 rfl (lv_at hl 1 rfl) ?_
  refine lv_iload_n hx hb dX3_work_47 rfl (lv_at hl 3 rfl) ?_
  obtain ⟨g1, hf⟩ := gd hf
  refine g_lald hx hb hK hP 40 ct_40 g1 dX3_work_48 ?_
  refine lv_lstore (lv' := [(4, .long (st.2 40 v3.toNatClampNeg)), (0, .ref (ad 37)), (1, .ref (ad 40)), (2, .int v2), (3, .int v3)]) hx hb dX3_work_49 hl (by decide) rfl (fun ls hl => ?_)
  refine lv_aload_n hx hb dX3_work_51 rfl (lv_at hl 1 rfl) ?_
  refine lv_dup hx hb dX3_work_52 rfl ?_
  refine g_getJ hx hb hts inlX3 hown hK hP 37 ct_37 rfl 11 (by decide) (hts _ wm_41_22) rfl dX3_work_53 ?_
  refine lv_lload hx hb dX3_work_56 (lv_at hl 0 rfl) ?_
  refine lv_ladd hx hb dX3_work_58 ?_
  refine g_putJ hx hb hts inlX3 tyX3_ok nmX3 hown hK had hP hS 37 ct_37 rfl 11 (by decide) (hts _ wm_41_22) rfl rfl rfl dX3_work_59 (fun H locs hP hS => ?_)
  exact wX3_work_s62 C n K41 v2 v3 (setJ st 37 11 ((st.2 37 11) + (st.2 40 v3.toNatClampNeg))) res hK41 hf H locs ls (lv_sub hl [1, 2, 3, 4] rfl) hP hS
def fX3_work_s41 (n : Nat) (K41 : Int32 → Int32 → St → Option (Unit × St))  (v2 : Int32) (v3 : Int32) (st : St) : Option (Unit × St) := if v2 ≤ v3 then fX3_work_s68 n st else fX3_work_s46 n K41 v2 v3 st
set_option maxHeartbeats 4000000 in
set_option maxRecDepth 100000 in
theorem wX3_work_s41 (C : Cx p s m args meth c cX3_work 6 wsL_law RX3 none D G ad) (n : Nat) (K41 : Int32 → Int32 → St → Option (Unit × St))  (v2 : Int32) (v3 : Int32)   (st : St) (res : (Unit × St)) (hK41 : ∀ (v2 : Int32) (v3 : Int32) (st : St), K41 v2 v3 st = some res → At p l e (rmK 2) s m args below meth c D G ad (MQV D G ad below args s res) 6 st [(0, .ref (ad 37)), (1, .ref (ad 40)), (2, .int v2), (3, .int v3)] 41 []) (hf : fX3_work_s41 n K41  v2 v3 st = some res) : At p l e (rmK 2) s m args below meth c D G ad (MQV D G ad below args s res) 6 st [(0, .ref (ad 37)), (1, .ref (ad 40)), (2, .int v2), (3, .int v3)] 41 [] := by
  obtain ⟨hx, hb, hml, hown, hts, hr, hlk, hK, had, hSt⟩ := id C
  intro H locs ls hl hP hS
  unfold fX3_work_s41 at hf
  refine lv_iload_n hx hb dX3_work_41 rfl (lv_at hl 3 rfl) ?_
  refine lv_iload_n hx hb dX3_work_42 rfl (lv_at hl 2 rfl) ?_
  refine lv_icmp_ge (tgt := 68) hx hb dX3_work_43 (by decide) (fun q => ?_) (fun q => ?_)
  · exact wX3_work_s68 C n st res (it hf q) H locs ls (lv_sub hl [0] rfl) hP hS
  · exact wX3_work_s46 C n K41 v2 v3 st res hK41 (ie hf q) H locs ls (lv_sub hl [0, 1, 2, 3] rfl) hP hS
def fX3_work_L41 (n : Nat)   : Nat → Int32 → Int32 → St → Option (Unit × St)
  | 0, _, _, _ => none
  | k + 1, v2, v3, st => fX3_work_s41 n (fX3_work_L41 n k)  v2 v3 st
theorem wX3_work_L41 (C : Cx p s m args meth c cX3_work 6 wsL_law RX3 none D G ad) (n : Nat)    (res : (Unit × St))  : ∀ (k : Nat) (v2 : Int32) (v3 : Int32)  (st : St), fX3_work_L41 n k v2 v3 st = some res → At p l e (rmK 2) s m args below meth c D G ad (MQV D G ad below args s res) 6 st [(0, .ref (ad 37)), (1, .ref (ad 40)), (2, .int v2), (3, .int v3)] 41 [] := by
  intro k
  induction k with
  | zero => intro v2 v3  st h; exact absurd h (by intro q; cases q)
  | succ k ih => intro v2 v3  st h; exact wX3_work_s41 C n (fX3_work_L41 n k)  v2 v3   st res ih h
def fX3_work_s31 (n : Nat)    (st : St) : Option (Unit × St) := fX3_work_L41 n n 17 0 st
set_option maxHeartbeats 4000000 in
set_option maxRecDepth 100000 in
theorem wX3_work_s31 (C : Cx p s m args meth c cX3_work 6 wsL_law RX3 none D G ad) (n : Nat)      (st : St) (res : (Unit × St))  (hf : fX3_work_s31 n    st = some res) : At p l e (rmK 2) s m args below meth c D G ad (MQV D G ad below args s res) 6 st [(0, .ref (ad 37))] 31 [] := by
  obtain ⟨hx, hb, hml, hown, hts, hr, hlk, hK, had, hSt⟩ := id C
  intro H locs ls hl hP hS
  unfold fX3_work_s31 at hf
  refine lv_aload_n hx hb dX3_work_31 rfl (lv_at hl 0 rfl) ?_
  refine g_getR hx hb hts inlX3 hown hK hP 37 ct_37 rfl 2 (by decide) (hts _ wm_6_0) rfl dX3_work_32 ?_
  refine lv_astore_n (lv' := [(1, .ref (ad 40)), (0, .ref (ad 37))]) hx hb dX3_work_35 rfl hl (by decide) rfl (fun ls hl => ?_)
  refine lv_aload_n hx hb dX3_work_36 rfl (lv_at hl 0 rfl) ?_
  refine g_alen hx hb hK hP 40 ct_40 dX3_work_37 ?_
  refine lv_topc (v := 17) (by decide) ?_
  refine lv_istore_n (lv' := [(2, .int 17), (1, .ref (ad 40)), (0, .ref (ad 37))]) hx hb dX3_work_38 rfl hl (by decide) rfl (fun ls hl => ?_)
  refine lv_iconst (v := 0) hx hb dX3_work_39 (by decide) ?_
  refine lv_istore_n (lv' := [(3, .int 0), (2, .int 17), (1, .ref (ad 40)), (0, .ref (ad 37))]) hx hb dX3_work_40 rfl hl (by decide) rfl (fun ls hl => ?_)
  exact wX3_work_L41 C n res n 17 0 st hf H locs ls (lv_sub hl [3, 2, 1, 0] rfl) hP hS
def fX3_work_s26 (n : Nat)    (st : St) : Option (Unit × St) := fX3_work_s31 n (setJ st 37 11 0)
set_option maxHeartbeats 4000000 in
set_option maxRecDepth 100000 in
theorem wX3_work_s26 (C : Cx p s m args meth c cX3_work 6 wsL_law RX3 none D G ad) (n : Nat)      (st : St) (res : (Unit × St))  (hf : fX3_work_s26 n    st = some res) : At p l e (rmK 2) s m args below meth c D G ad (MQV D G ad below args s res) 6 st [(0, .ref (ad 37))] 26 [] := by
  obtain ⟨hx, hb, hml, hown, hts, hr, hlk, hK, had, hSt⟩ := id C
  intro H locs ls hl hP hS
  unfold fX3_work_s26 at hf
  refine lv_aload_n hx hb dX3_work_26 rfl (lv_at hl 0 rfl) ?_
  refine lv_lconst (v := 0) hx hb dX3_work_27 (by decide) ?_
  refine g_putJ hx hb hts inlX3 tyX3_ok nmX3 hown hK had hP hS 37 ct_37 rfl 11 (by decide) (hts _ wm_41_22) rfl rfl rfl dX3_work_28 (fun H locs hP hS => ?_)
  exact wX3_work_s31 C n (setJ st 37 11 0) res hf H locs ls (lv_sub hl [0] rfl) hP hS
def fX3_work_s14 (n : Nat)    (st : St) : Option (Unit × St) := (fX3_addUp n 13 41 (st.1 37 6) st).bind (fun q => fX3_work_s26 n q.2)
set_option maxHeartbeats 4000000 in
set_option maxRecDepth 100000 in
theorem wX3_work_s14 (C : Cx p s m args meth c cX3_work 6 wsL_law RX3 none D G ad) (n : Nat)      (st : St) (res : (Unit × St))  (hf : fX3_work_s14 n    st = some res) : At p l e (rmK 2) s m args below meth c D G ad (MQV D G ad below args s res) 6 st [(0, .ref (ad 37))] 14 [] := by
  obtain ⟨hx, hb, hml, hown, hts, hr, hlk, hK, had, hSt⟩ := id C
  intro H locs ls hl hP hS
  unfold fX3_work_s14 at hf
  refine lv_aload_n hx hb dX3_work_14 rfl (lv_at hl 0 rfl) ?_
  refine lv_aload_n hx hb dX3_work_15 rfl (lv_at hl 0 rfl) ?_
  refine g_getI hx hb hts inlX3 hown hK hP 37 ct_37 rfl 6 (by decide) (hts _ wm_41_14) rfl dX3_work_16 ?_
  refine lv_aload_n hx hb dX3_work_19 rfl (lv_at hl 0 rfl) ?_
  refine g_getR hx hb hts inlX3 hown hK hP 37 ct_37 rfl 3 (by decide) (hts _ wm_6_1) rfl dX3_work_20 ?_
  obtain ⟨q, hq, hf⟩ := bd hf
  refine gcV_v (k := 0) (o := 37) (As := [.int (st.1 37 6), .ref (ad 41)]) (rest := []) hx hb hml hown hts hK hSt hP hS hl.1 (goodV wm_42_0 wm_40_17 wm_40_18 wm_2_19 wm_40_19) okX3_addUp ct_37 rfl rfl (Nat.le_of_ble_eq_true rfl) (Nat.le_of_ble_eq_true rfl) rfl rfl (Nat.le_of_ble_eq_true rfl) dX3_work_23 (kX3_addUp l D G ad had n 13 41 ct_41 (st.1 37 6) st q hq) (fun H locs hP hS => ?_)
  exact wX3_work_s26 C n q.2 res hf H locs ls (lv_sub hl [0] rfl) hP hS
def fX3_work_s0 (n : Nat)    (st : St) : Option (Unit × St) := (fX3_addUp n 17 40 ((st.1 37 5) + 1) st).bind (fun q => fX3_work_s14 n q.2)
set_option maxHeartbeats 4000000 in
set_option maxRecDepth 100000 in
theorem wX3_work_s0 (C : Cx p s m args meth c cX3_work 6 wsL_law RX3 none D G ad) (n : Nat)      (st : St) (res : (Unit × St))  (hf : fX3_work_s0 n    st = some res) : At p l e (rmK 2) s m args below meth c D G ad (MQV D G ad below args s res) 6 st [(0, .ref (ad 37))] 0 [] := by
  obtain ⟨hx, hb, hml, hown, hts, hr, hlk, hK, had, hSt⟩ := id C
  intro H locs ls hl hP hS
  unfold fX3_work_s0 at hf
  refine lv_aload_n hx hb dX3_work_0 rfl (lv_at hl 0 rfl) ?_
  refine lv_aload_n hx hb dX3_work_1 rfl (lv_at hl 0 rfl) ?_
  refine g_getI hx hb hts inlX3 hown hK hP 37 ct_37 rfl 5 (by decide) (hts _ wm_41_13) rfl dX3_work_2 ?_
  refine lv_iconst (v := 1) hx hb dX3_work_5 (by decide) ?_
  refine lv_iadd hx hb dX3_work_6 ?_
  refine lv_aload_n hx hb dX3_work_7 rfl (lv_at hl 0 rfl) ?_
  refine g_getR hx hb hts inlX3 hown hK hP 37 ct_37 rfl 2 (by decide) (hts _ wm_6_0) rfl dX3_work_8 ?_
  obtain ⟨q, hq, hf⟩ := bd hf
  refine gcV_v (k := 0) (o := 37) (As := [.int ((st.1 37 5) + 1), .ref (ad 40)]) (rest := []) hx hb hml hown hts hK hSt hP hS hl.1 (goodV wm_42_0 wm_40_17 wm_40_18 wm_2_19 wm_40_19) okX3_addUp ct_37 rfl rfl (Nat.le_of_ble_eq_true rfl) (Nat.le_of_ble_eq_true rfl) rfl rfl (Nat.le_of_ble_eq_true rfl) dX3_work_11 (kX3_addUp l D G ad had n 17 40 ct_40 ((st.1 37 5) + 1) st q hq) (fun H locs hP hS => ?_)
  exact wX3_work_s14 C n q.2 res hf H locs ls (lv_sub hl [0] rfl) hP hS
def fX3_work (n : Nat)   (st : St) : Option (Unit × St) := fX3_work_s0 n st
theorem okX3_work : okY yX3_work RX3 0 := by unfold okY; decide +kernel
end
set_option maxRecDepth 100000 in
theorem kX3_work (l : Launch) (D : va_G) (G : G3) (ad : Nat → Nat) (had : Adr ad) (n : Nat)    (st : St) (res : (Unit × St)) (hf : fX3_work n   st = some res) {sz : Nat} : CtV l yX3_work (wsU yX3_work cX3_work 6 none) (rmK 2) D G ad sz [.ref (ad 37)] st res := by
  refine Met.ofW (cc := cX3_work) (maxL := 6) (ret := none) (by decide) rfl ?_
  intro p e s m args below meth c s₁ B hml hv
  obtain ⟨rfl, hsz, hP, hK, hSt⟩ := hv
  have hts := atoms_spec (ws := wsU yX3_work cX3_work 6 none) B.pre
  have C : Cx p s m _ meth c cX3_work 6 wsL_law RX3 none D G ad := ⟨B.exec, B.bytes, hml, findClass_of_methodNamed B.named, fun w h => hts w (List.mem_cons_of_mem _ h), B.returns, B.notSynchronized, hK, had, hSt⟩
  subst hsz
  have hl := lv_entry ([.ref (ad 37)]) (n := 6) (Nat.le_of_ble_eq_true rfl)
  rw [lg_entry_eq]
  generalize (lg_sl ([.ref (ad 37)]) ++ List.replicate (6 - (lg_sl ([.ref (ad 37)])).length) Slot.unset).toArray = ls at hl ⊢
  exact wX3_work_s0 C n     st res hf s.heap [] ls (lv_sub hl [0] rfl) hP va_S.rf
section
variable {p : Program} {l : Launch} {e : Env} {s : State} {m : MethodId} {args : Array Value} {below : List Frame} {meth : Method} {c : Code} {D : va_G} {G : G3} {ad : Nat → Nat}
def fX3_farCost_s68 (n : Nat)   (v2 : Int64) (st : St) : Option (Int64 × St) := some (v2, st)
set_option maxHeartbeats 4000000 in
set_option maxRecDepth 100000 in
theorem wX3_farCost_s68 (C : Cx p s m args meth c cX3_farCost 7 wsL_law RX3 (some .long) D G ad) (n : Nat)   (v2 : Int64)   (st : St) (res : (Int64 × St))  (hf : fX3_farCost_s68 n   v2 st = some res) : At p l e (rmK 2) s m args below meth c D G ad (MQJ D G ad below args s res) 7 st [(2, .long v2)] 68 [] := by
  obtain ⟨hx, hb, hml, hown, hts, hr, hlk, hK, had, hSt⟩ := id C
  intro H locs ls hl hP hS
  unfold fX3_farCost_s68 at hf
  refine lv_lload_n hx hb dX3_farCost_68 rfl (lv_at hl 0 rfl) ?_
  exact g_lret hx hb hr hlk hP hS dX3_farCost_69 hf
def fX3_farCost_s58 (n : Nat) (K5 : Int32 → Int64 → Int32 → St → Option (Int64 × St))  (v1 : Int32) (v4 : Int32) (k0 : Int64) (k1 : Int64) (k2 : Int64) (k3 : Int64) (st : St) : Option (Int64 × St) := K5 v1 (k0 + (k1 * (k2 + k3))) (v4 + 1) st
set_option maxHeartbeats 4000000 in
set_option maxRecDepth 100000 in
theorem wX3_farCost_s58 (C : Cx p s m args meth c cX3_farCost 7 wsL_law RX3 (some .long) D G ad) (n : Nat) (K5 : Int32 → Int64 → Int32 → St → Option (Int64 × St))  (v1 : Int32) (v4 : Int32) (k0 : Int64) (k1 : Int64) (k2 : Int64) (k3 : Int64)   (st : St) (res : (Int64 × St)) (hK5 : ∀ (v1 : Int32) (v2 : Int64) (v4 : Int32) (st : St), K5 v1 v2 v4 st = some res → At p l e (rmK 2) s m args below meth c D G ad (MQJ D G ad below args s res) 7 st [(0, .ref (ad 37)), (1, .int v1), (2, .long v2), (4, .int v4)] 5 []) (hf : fX3_farCost_s58 n K5  v1 v4 k0 k1 k2 k3 st = some res) : At p l e (rmK 2) s m args below meth c D G ad (MQJ D G ad below args s res) 7 st [(0, .ref (ad 37)), (1, .int v1), (4, .int v4)] 58 [.long k3, .long k2, .long k1, .long k0] := by
  obtain ⟨hx, hb, hml, hown, hts, hr, hlk, hK, had, hSt⟩ := id C
  intro H locs ls hl hP hS
  unfold fX3_farCost_s58 at hf
  refine lv_ladd hx hb dX3_farCost_58 ?_
  refine lv_lmul hx hb dX3_farCost_59 ?_
  refine lv_ladd hx hb dX3_farCost_60 ?_
  refine lv_lstore_n (lv' := [(2, .long (k0 + (k1 * (k2 + k3)))), (0, .ref (ad 37)), (1, .int v1), (4, .int v4)]) hx hb dX3_farCost_61 rfl hl (by decide) rfl (fun ls hl => ?_)
  refine lv_iinc (v := v4 + 1) (lv' := [(4, .int (v4 + 1)), (2, .long (k0 + (k1 * (k2 + k3)))), (0, .ref (ad 37)), (1, .int v1)]) hx hb dX3_farCost_62 hl (k := 3) rfl rfl (by decide) rfl (fun ls hl => ?_)
  refine lv_goto (tgt := 5) hx hb dX3_farCost_65 (by decide) ?_
  exact hK5 v1 (k0 + (k1 * (k2 + k3))) (v4 + 1)  st hf H locs ls (lv_sub hl [2, 3, 1, 0] rfl) hP hS
def fX3_farCost_s15 (n : Nat) (K5 : Int32 → Int64 → Int32 → St → Option (Int64 × St))  (v1 : Int32) (v2 : Int64) (v4 : Int32) (st : St) : Option (Int64 × St) := if inb v4 13 = true then ((fX3_nearCost n (if (v1 - v4) < (st.1 37 10) then (v1 - v4) else (st.1 37 10)) st).bind (fun q => fX3_farCost_s58 n K5 v1 v4 v2 (st.2 41 v4.toNatClampNeg) ((((st.1 37 8).toInt64) * ((v1 - v4).toInt64)) * (st.2 37 11)) q.1 q.2)) else none
set_option maxHeartbeats 4000000 in
set_option maxRecDepth 100000 in
theorem wX3_farCost_s15 (C : Cx p s m args meth c cX3_farCost 7 wsL_law RX3 (some .long) D G ad) (n : Nat) (K5 : Int32 → Int64 → Int32 → St → Option (Int64 × St))  (v1 : Int32) (v2 : Int64) (v4 : Int32)   (st : St) (res : (Int64 × St)) (hK5 : ∀ (v1 : Int32) (v2 : Int64) (v4 : Int32) (st : St), K5 v1 v2 v4 st = some res → At p l e (rmK 2) s m args below meth c D G ad (MQJ D G ad below args s res) 7 st [(0, .ref (ad 37)), (1, .int v1), (2, .long v2), (4, .int v4)] 5 []) (hf : fX3_farCost_s15 n K5  v1 v2 v4 st = some res) : At p l e (rmK 2) s m args below meth c D G ad (MQJ D G ad below args s res) 7 st [(0, .ref (ad 37)), (1, .int v1), (2, .long v2), (4, .int v4)] 15 [] := by
  obtain ⟨hx, hb, hml, hown, hts, hr, hlk, hK, had, hSt⟩ := id C
  intro H locs ls hl hP hS
  unfold fX3_farCost_s15 at hf
  refine lv_aload_n hx hb dX3_farCost_15 rfl (lv_at hl 0 rfl) ?_
  refine g_getI hx hb hts inlX3 hown hK hP 37 ct_37 rfl 8 (by decide) (hts _ wm_41_16) rfl dX3_farCost_16 ?_
  refine lv_i2l hx hb dX3_farCost_19 rfl ?_
  refine lv_iload_n hx hb dX3_farCost_20 rfl (lv_at hl 1 rfl) ?_
  refine lv_iload hx hb dX3_farCost_21 (lv_at hl 3 rfl) ?_
  refine lv_isub hx hb dX3_farCost_23 ?_
  refine lv_i2l hx hb dX3_farCost_24 rfl ?_
  refine lv_lmul hx hb dX3_farCost_25 ?_
  refine lv_aload_n hx hb dX3_farCost_26 rfl (lv_at hl 0 rfl) ?_
  refine g_getJ hx hb hts inlX3 hown hK hP 37 ct_37 rfl 11 (by decide) (hts _ wm_41_22) rfl dX3_farCost_27 ?_
  refine lv_lmul hx hb dX3_farCost_30 ?_
  refine lv_lstore (lv' := [(5, .long ((((st.1 37 8).toInt64) * ((v1 - v4).toInt64)) * (st.2 37 11))), (0, .ref (ad 37)), (1, .int v1), (2, .long v2), (4, .int v4)]) hx hb dX3_farCost_31 hl (by decide) rfl (fun ls hl => ?_)
  refine lv_lload_n hx hb dX3_farCost_33 rfl (lv_at hl 3 rfl) ?_
  refine lv_aload_n hx hb dX3_farCost_34 rfl (lv_at hl 1 rfl) ?_
  refine g_getR hx hb hts inlX3 hown hK hP 37 ct_37 rfl 3 (by decide) (hts _ wm_6_1) rfl dX3_farCost_35 ?_
  refine lv_iload hx hb dX3_farCost_38 (lv_at hl 4 rfl) ?_
  obtain ⟨g1, hf⟩ := gd hf
  refine g_lald hx hb hK hP 41 ct_41 g1 dX3_farCost_40 ?_
  refine lv_lload hx hb dX3_farCost_41 (lv_at hl 0 rfl) ?_
  refine lv_aload_n hx hb dX3_farCost_43 rfl (lv_at hl 1 rfl) ?_
  refine lv_aload_n hx hb dX3_farCost_44 rfl (lv_at hl 1 rfl) ?_
  refine g_getI hx hb hts inlX3 hown hK hP 37 ct_37 rfl 10 (by decide) (hts _ wm_41_23) rfl dX3_farCost_45 ?_
  refine lv_iload_n hx hb dX3_farCost_48 rfl (lv_at hl 2 rfl) ?_
  refine lv_iload hx hb dX3_farCost_49 (lv_at hl 4 rfl) ?_
  refine lv_isub hx hb dX3_farCost_51 ?_
  refine va_mmin hx hb (hml.trans hl.1.symm) hown (hts _ wm_42_17) (hts _ wm_18_19) (hts _ wm_18_20) (hts _ wm_18_21) (Nat.le_of_ble_eq_true rfl) (Nat.le_of_ble_eq_true rfl) (Nat.zero_le _) (Nat.zero_le _) dX3_farCost_52 ?_
  obtain ⟨q, hq, hf⟩ := bd hf
  refine gcV_j (k := 1) (o := 37) (As := [.int (if (v1 - v4) < (st.1 37 10) then (v1 - v4) else (st.1 37 10))]) (rest := [.long ((((st.1 37 8).toInt64) * ((v1 - v4).toInt64)) * (st.2 37 11)), .long (st.2 41 v4.toNatClampNeg), .long v2]) hx hb hml hown hts hK hSt hP hS hl.1 (goodV wm_42_5 wm_42_6 wm_42_7 wm_2_19 wm_42_8) okX3_nearCost ct_37 rfl rfl (Nat.le_of_ble_eq_true rfl) (Nat.le_of_ble_eq_true rfl) rfl rfl (Nat.le_of_ble_eq_true rfl) dX3_farCost_55 (kX3_nearCost l D G ad had n  (if (v1 - v4) < (st.1 37 10) then (v1 - v4) else (st.1 37 10)) st q hq) (fun H locs hP hS => ?_)
  exact wX3_farCost_s58 C n K5 v1 v4 v2 (st.2 41 v4.toNatClampNeg) ((((st.1 37 8).toInt64) * ((v1 - v4).toInt64)) * (st.2 37 11)) q.1 q.2 res hK5 hf H locs ls (lv_sub hl [1, 2, 4] rfl) hP hS
def fX3_farCost_s5 (n : Nat) (K5 : Int32 → Int64 → Int32 → St → Option (Int64 × St))  (v1 : Int32) (v2 : Int64) (v4 : Int32) (st : St) : Option (Int64 × St) := if 13 ≤ v4 then fX3_farCost_s68 n v2 st else fX3_farCost_s15 n K5 v1 v2 v4 st
set_option maxHeartbeats 4000000 in
set_option maxRecDepth 100000 in
theorem wX3_farCost_s5 (C : Cx p s m args meth c cX3_farCost 7 wsL_law RX3 (some .long) D G ad) (n : Nat) (K5 : Int32 → Int64 → Int32 → St → Option (Int64 × St))  (v1 : Int32) (v2 : Int64) (v4 : Int32)   (st : St) (res : (Int64 × St)) (hK5 : ∀ (v1 : Int32) (v2 : Int64) (v4 : Int32) (st : St), K5 v1 v2 v4 st = some res → At p l e (rmK 2) s m args below meth c D G ad (MQJ D G ad below args s res) 7 st [(0, .ref (ad 37)), (1, .int v1), (2, .long v2), (4, .int v4)] 5 []) (hf : fX3_farCost_s5 n K5  v1 v2 v4 st = some res) : At p l e (rmK 2) s m args below meth c D G ad (MQJ D G ad below args s res) 7 st [(0, .ref (ad 37)), (1, .int v1), (2, .long v2), (4, .int v4)] 5 [] := by
  obtain ⟨hx, hb, hml, hown, hts, hr, hlk, hK, had, hSt⟩ := id C
  intro H locs ls hl hP hS
  unfold fX3_farCost_s5 at hf
  refine lv_iload hx hb dX3_farCost_5 (lv_at hl 3 rfl) ?_
  refine lv_aload_n hx hb dX3_farCost_7 rfl (lv_at hl 0 rfl) ?_
  refine g_getR hx hb hts inlX3 hown hK hP 37 ct_37 rfl 3 (by decide) (hts _ wm_6_1) rfl dX3_farCost_8 ?_
  refine g_alen hx hb hK hP 41 ct_41 dX3_farCost_11 ?_
  refine lv_topc (v := 13) (by decide) ?_
  refine lv_icmp_ge (tgt := 68) hx hb dX3_farCost_12 (by decide) (fun q => ?_) (fun q => ?_)
  · exact wX3_farCost_s68 C n v2 st res (it hf q) H locs ls (lv_sub hl [2] rfl) hP hS
  · exact wX3_farCost_s15 C n K5 v1 v2 v4 st res hK5 (ie hf q) H locs ls (lv_sub hl [0, 1, 2, 3] rfl) hP hS
def fX3_farCost_L5 (n : Nat)   : Nat → Int32 → Int64 → Int32 → St → Option (Int64 × St)
  | 0, _, _, _, _ => none
  | k + 1, v1, v2, v4, st => fX3_farCost_s5 n (fX3_farCost_L5 n k)  v1 v2 v4 st
theorem wX3_farCost_L5 (C : Cx p s m args meth c cX3_farCost 7 wsL_law RX3 (some .long) D G ad) (n : Nat)    (res : (Int64 × St))  : ∀ (k : Nat) (v1 : Int32) (v2 : Int64) (v4 : Int32)  (st : St), fX3_farCost_L5 n k v1 v2 v4 st = some res → At p l e (rmK 2) s m args below meth c D G ad (MQJ D G ad below args s res) 7 st [(0, .ref (ad 37)), (1, .int v1), (2, .long v2), (4, .int v4)] 5 [] := by
  intro k
  induction k with
  | zero => intro v1 v2 v4  st h; exact absurd h (by intro q; cases q)
  | succ k ih => intro v1 v2 v4  st h; exact wX3_farCost_s5 C n (fX3_farCost_L5 n k)  v1 v2 v4   st res ih h
def fX3_farCost_s0 (n : Nat)   (v1 : Int32) (st : St) : Option (Int64 × St) := fX3_farCost_L5 n n v1 0 0 st
set_option maxHeartbeats 4000000 in
set_option maxRecDepth 100000 in
theorem wX3_farCost_s0 (C : Cx p s m args meth c cX3_farCost 7 wsL_law RX3 (some .long) D G ad) (n : Nat)   (v1 : Int32)   (st : St) (res : (Int64 × St))  (hf : fX3_farCost_s0 n   v1 st = some res) : At p l e (rmK 2) s m args below meth c D G ad (MQJ D G ad below args s res) 7 st [(0, .ref (ad 37)), (1, .int v1)] 0 [] := by
  obtain ⟨hx, hb, hml, hown, hts, hr, hlk, hK, had, hSt⟩ := id C
  intro H locs ls hl hP hS
  unfold fX3_farCost_s0 at hf
  refine lv_lconst (v := 0) hx hb dX3_farCost_0 (by decide) ?_
  refine lv_lstore_n (lv' := [(2, .long 0), (0, .ref (ad 37)), (1, .int v1)]) hx hb dX3_farCost_1 rfl hl (by decide) rfl (fun ls hl => ?_)
  refine lv_iconst (v := 0) hx hb dX3_farCost_2 (by decide) ?_
  refine lv_istore (lv' := [(4, .int 0), (2, .long 0), (0, .ref (ad 37)), (1, .int v1)]) hx hb dX3_farCost_3 hl (by decide) rfl (fun ls hl => ?_)
  exact wX3_farCost_L5 C n res n v1 0 0 st hf H locs ls (lv_sub hl [2, 3, 1, 0] rfl) hP hS
def fX3_farCost (n : Nat)  (a1 : Int32) (st : St) : Option (Int64 × St) := fX3_farCost_s0 n a1 st
theorem okX3_farCost : okY yX3_farCost RX3 1 := by unfold okY; decide +kernel
end
set_option maxRecDepth 100000 in
theorem kX3_farCost (l : Launch) (D : va_G) (G : G3) (ad : Nat → Nat) (had : Adr ad) (n : Nat)   (a1 : Int32) (st : St) (res : (Int64 × St)) (hf : fX3_farCost n  a1 st = some res) {sz : Nat} : CtJ l yX3_farCost (wsU yX3_farCost cX3_farCost 7 (some .long)) (rmK 2) D G ad sz [.ref (ad 37), .int a1] st res := by
  refine Met.ofW (cc := cX3_farCost) (maxL := 7) (ret := (some .long)) (by decide) rfl ?_
  intro p e s m args below meth c s₁ B hml hv
  obtain ⟨rfl, hsz, hP, hK, hSt⟩ := hv
  have hts := atoms_spec (ws := wsU yX3_farCost cX3_farCost 7 (some .long)) B.pre
  have C : Cx p s m _ meth c cX3_farCost 7 wsL_law RX3 (some .long) D G ad := ⟨B.exec, B.bytes, hml, findClass_of_methodNamed B.named, fun w h => hts w (List.mem_cons_of_mem _ h), B.returns, B.notSynchronized, hK, had, hSt⟩
  subst hsz
  have hl := lv_entry ([.ref (ad 37), .int a1]) (n := 7) (Nat.le_of_ble_eq_true rfl)
  rw [lg_entry_eq]
  generalize (lg_sl ([.ref (ad 37), .int a1]) ++ List.replicate (7 - (lg_sl ([.ref (ad 37), .int a1])).length) Slot.unset).toArray = ls at hl ⊢
  exact wX3_farCost_s0 C n  a1   st res hf s.heap [] ls (lv_sub hl [0, 1] rfl) hP va_S.rf
section
variable {p : Program} {l : Launch} {e : Env} {s : State} {m : MethodId} {args : Array Value} {below : List Frame} {meth : Method} {c : Code} {D : va_G} {G : G3} {ad : Nat → Nat}
def fX3_far_s45 (n : Nat)   (v1 : Int32) (st : St) : Option (Int32 × St) := some (v1, st)
set_option maxHeartbeats 4000000 in
set_option maxRecDepth 100000 in
theorem wX3_far_s45 (C : Cx p s m args meth c cX3_far 7 wsL_law RX3 (some .int) D G ad) (n : Nat)   (v1 : Int32)   (st : St) (res : (Int32 × St))  (hf : fX3_far_s45 n   v1 st = some res) : At p l e (rmK 3) s m args below meth c D G ad (MQI D G ad below args s res) 7 st [(1, .int v1)] 45 [] := by
  obtain ⟨hx, hb, hml, hown, hts, hr, hlk, hK, had, hSt⟩ := id C
  intro H locs ls hl hP hS
  unfold fX3_far_s45 at hf
  refine lv_iload_n hx hb dX3_far_45 rfl (lv_at hl 0 rfl) ?_
  exact g_iret hx hb hr hlk hP hS dX3_far_46 hf
def fX3_far_s39 (n : Nat) (K11 : Int32 → Int64 → Int32 → St → Option (Int32 × St))  (v1 : Int32) (v2 : Int64) (v4 : Int32) (st : St) : Option (Int32 × St) := K11 v1 v2 (v4 + 1) st
set_option maxHeartbeats 4000000 in
set_option maxRecDepth 100000 in
theorem wX3_far_s39 (C : Cx p s m args meth c cX3_far 7 wsL_law RX3 (some .int) D G ad) (n : Nat) (K11 : Int32 → Int64 → Int32 → St → Option (Int32 × St))  (v1 : Int32) (v2 : Int64) (v4 : Int32)   (st : St) (res : (Int32 × St)) (hK11 : ∀ (v1 : Int32) (v2 : Int64) (v4 : Int32) (st : St), K11 v1 v2 v4 st = some res → At p l e (rmK 3) s m args below meth c D G ad (MQI D G ad below args s res) 7 st [(0, .ref (ad 37)), (1, .int v1), (2, .long v2), (4, .int v4)] 11 []) (hf : fX3_far_s39 n K11  v1 v2 v4 st = some res) : At p l e (rmK 3) s m args below meth c D G ad (MQI D G ad below args s res) 7 st [(0, .ref (ad 37)), (1, .int v1), (2, .long v2), (4, .int v4)] 39 [] := by
  obtain ⟨hx, hb, hml, hown, hts, hr, hlk, hK, had, hSt⟩ := id C
  intro H locs ls hl hP hS
  unfold fX3_far_s39 at hf
  refine lv_iinc (v := v4 + 1) (lv' := [(4, .int (v4 + 1)), (0, .ref (ad 37)), (1, .int v1), (2, .long v2)]) hx hb dX3_far_39 hl (k := 3) rfl rfl (by decide) rfl (fun ls hl => ?_)
  refine lv_goto (tgt := 11) hx hb dX3_far_42 (by decide) ?_
  exact hK11 v1 v2 (v4 + 1)  st hf H locs ls (lv_sub hl [1, 2, 3, 0] rfl) hP hS
def fX3_far_s33 (n : Nat) (K11 : Int32 → Int64 → Int32 → St → Option (Int32 × St))  (v4 : Int32) (v5 : Int64) (st : St) : Option (Int32 × St) := fX3_far_s39 n K11 v4 v5 v4 st
set_option maxHeartbeats 4000000 in
set_option maxRecDepth 100000 in
theorem wX3_far_s33 (C : Cx p s m args meth c cX3_far 7 wsL_law RX3 (some .int) D G ad) (n : Nat) (K11 : Int32 → Int64 → Int32 → St → Option (Int32 × St))  (v4 : Int32) (v5 : Int64)   (st : St) (res : (Int32 × St)) (hK11 : ∀ (v1 : Int32) (v2 : Int64) (v4 : Int32) (st : St), K11 v1 v2 v4 st = some res → At p l e (rmK 3) s m args below meth c D G ad (MQI D G ad below args s res) 7 st [(0, .ref (ad 37)), (1, .int v1), (2, .long v2), (4, .int v4)] 11 []) (hf : fX3_far_s33 n K11  v4 v5 st = some res) : At p l e (rmK 3) s m args below meth c D G ad (MQI D G ad below args s res) 7 st [(0, .ref (ad 37)), (4, .int v4), (5, .long v5)] 33 [] := by
  obtain ⟨hx, hb, hml, hown, hts, hr, hlk, hK, had, hSt⟩ := id C
  intro H locs ls hl hP hS
  unfold fX3_far_s33 at hf
  refine lv_lload hx hb dX3_far_33 (lv_at hl 2 rfl) ?_
  refine lv_lstore_n (lv' := [(2, .long v5), (0, .ref (ad 37)), (4, .int v4), (5, .long v5)]) hx hb dX3_far_35 rfl hl (by decide) rfl (fun ls hl => ?_)
  refine lv_iload hx hb dX3_far_36 (lv_at hl 2 rfl) ?_
  refine lv_istore_n (lv' := [(1, .int v4), (2, .long v5), (0, .ref (ad 37)), (4, .int v4), (5, .long v5)]) hx hb dX3_far_38 rfl hl (by decide) rfl (fun ls hl => ?_)
  exact wX3_far_s39 C n K11 v4 v5 v4 st res hK11 hf H locs ls (lv_sub hl [2, 0, 1, 3] rfl) hP hS
def fX3_far_s24 (n : Nat) (K11 : Int32 → Int64 → Int32 → St → Option (Int32 × St))  (v1 : Int32) (v2 : Int64) (v4 : Int32) (k0 : Int64) (st : St) : Option (Int32 × St) := if v2 ≤ k0 then fX3_far_s39 n K11 v1 v2 v4 st else fX3_far_s33 n K11 v4 k0 st
set_option maxHeartbeats 4000000 in
set_option maxRecDepth 100000 in
theorem wX3_far_s24 (C : Cx p s m args meth c cX3_far 7 wsL_law RX3 (some .int) D G ad) (n : Nat) (K11 : Int32 → Int64 → Int32 → St → Option (Int32 × St))  (v1 : Int32) (v2 : Int64) (v4 : Int32) (k0 : Int64)   (st : St) (res : (Int32 × St)) (hK11 : ∀ (v1 : Int32) (v2 : Int64) (v4 : Int32) (st : St), K11 v1 v2 v4 st = some res → At p l e (rmK 3) s m args below meth c D G ad (MQI D G ad below args s res) 7 st [(0, .ref (ad 37)), (1, .int v1), (2, .long v2), (4, .int v4)] 11 []) (hf : fX3_far_s24 n K11  v1 v2 v4 k0 st = some res) : At p l e (rmK 3) s m args below meth c D G ad (MQI D G ad below args s res) 7 st [(0, .ref (ad 37)), (1, .int v1), (2, .long v2), (4, .int v4)] 24 [.long k0] := by
  obtain ⟨hx, hb, hml, hown, hts, hr, hlk, hK, had, hSt⟩ := id C
  intro H locs ls hl hP hS
  unfold fX3_far_s24 at hf
  refine lv_lstore (lv' := [(5, .long k0), (0, .ref (ad 37)), (1, .int v1), (2, .long v2), (4, .int v4)]) hx hb dX3_far_24 hl (by decide) rfl (fun ls hl => ?_)
  refine lv_lload hx hb dX3_far_26 (lv_at hl 0 rfl) ?_
  refine lv_lload_n hx hb dX3_far_28 rfl (lv_at hl 3 rfl) ?_
  refine g_lcmp_ge (tgt := 39) hx hb dX3_far_29 dX3_far_30 (by decide) (fun q => ?_) (fun q => ?_)
  · exact wX3_far_s39 C n K11 v1 v2 v4 st res hK11 (it hf q) H locs ls (lv_sub hl [1, 2, 3, 4] rfl) hP hS
  · exact wX3_far_s33 C n K11 v4 k0 st res hK11 (ie hf q) H locs ls (lv_sub hl [1, 4, 0] rfl) hP hS
def fX3_far_s18 (n : Nat) (K11 : Int32 → Int64 → Int32 → St → Option (Int32 × St))  (v1 : Int32) (v2 : Int64) (v4 : Int32) (st : St) : Option (Int32 × St) := (fX3_farCost n v4 st).bind (fun q => fX3_far_s24 n K11 v1 v2 v4 q.1 q.2)
set_option maxHeartbeats 4000000 in
set_option maxRecDepth 100000 in
theorem wX3_far_s18 (C : Cx p s m args meth c cX3_far 7 wsL_law RX3 (some .int) D G ad) (n : Nat) (K11 : Int32 → Int64 → Int32 → St → Option (Int32 × St))  (v1 : Int32) (v2 : Int64) (v4 : Int32)   (st : St) (res : (Int32 × St)) (hK11 : ∀ (v1 : Int32) (v2 : Int64) (v4 : Int32) (st : St), K11 v1 v2 v4 st = some res → At p l e (rmK 3) s m args below meth c D G ad (MQI D G ad below args s res) 7 st [(0, .ref (ad 37)), (1, .int v1), (2, .long v2), (4, .int v4)] 11 []) (hf : fX3_far_s18 n K11  v1 v2 v4 st = some res) : At p l e (rmK 3) s m args below meth c D G ad (MQI D G ad below args s res) 7 st [(0, .ref (ad 37)), (1, .int v1), (2, .long v2), (4, .int v4)] 18 [] := by
  obtain ⟨hx, hb, hml, hown, hts, hr, hlk, hK, had, hSt⟩ := id C
  intro H locs ls hl hP hS
  unfold fX3_far_s18 at hf
  refine lv_aload_n hx hb dX3_far_18 rfl (lv_at hl 0 rfl) ?_
  refine lv_iload hx hb dX3_far_19 (lv_at hl 3 rfl) ?_
  obtain ⟨q, hq, hf⟩ := bd hf
  refine gcV_j (k := 2) (o := 37) (As := [.int v4]) (rest := []) hx hb hml hown hts hK hSt hP hS hl.1 (goodV wm_42_13 wm_42_14 wm_42_15 wm_2_19 wm_42_16) okX3_farCost ct_37 rfl rfl (Nat.le_of_ble_eq_true rfl) (Nat.le_of_ble_eq_true rfl) rfl rfl (Nat.le_of_ble_eq_true rfl) dX3_far_21 (kX3_farCost l D G ad had n  v4 st q hq) (fun H locs hP hS => ?_)
  exact wX3_far_s24 C n K11 v1 v2 v4 q.1 q.2 res hK11 hf H locs ls (lv_sub hl [0, 1, 2, 3] rfl) hP hS
def fX3_far_s11 (n : Nat) (K11 : Int32 → Int64 → Int32 → St → Option (Int32 × St))  (v1 : Int32) (v2 : Int64) (v4 : Int32) (st : St) : Option (Int32 × St) := if 30 < v4 then fX3_far_s45 n v1 st else fX3_far_s18 n K11 v1 v2 v4 st
set_option maxHeartbeats 4000000 in
set_option maxRecDepth 100000 in
theorem wX3_far_s11 (C : Cx p s m args meth c cX3_far 7 wsL_law RX3 (some .int) D G ad) (n : Nat) (K11 : Int32 → Int64 → Int32 → St → Option (Int32 × St))  (v1 : Int32) (v2 : Int64) (v4 : Int32)   (st : St) (res : (Int32 × St)) (hK11 : ∀ (v1 : Int32) (v2 : Int64) (v4 : Int32) (st : St), K11 v1 v2 v4 st = some res → At p l e (rmK 3) s m args below meth c D G ad (MQI D G ad below args s res) 7 st [(0, .ref (ad 37)), (1, .int v1), (2, .long v2), (4, .int v4)] 11 []) (hf : fX3_far_s11 n K11  v1 v2 v4 st = some res) : At p l e (rmK 3) s m args below meth c D G ad (MQI D G ad below args s res) 7 st [(0, .ref (ad 37)), (1, .int v1), (2, .long v2), (4, .int v4)] 11 [] := by
  obtain ⟨hx, hb, hml, hown, hts, hr, hlk, hK, had, hSt⟩ := id C
  intro H locs ls hl hP hS
  unfold fX3_far_s11 at hf
  refine lv_iload hx hb dX3_far_11 (lv_at hl 3 rfl) ?_
  refine lv_bipush (v := 30) hx hb dX3_far_13 (by decide) ?_
  refine lv_icmp_gt (tgt := 45) hx hb dX3_far_15 (by decide) (fun q => ?_) (fun q => ?_)
  · exact wX3_far_s45 C n v1 st res (it hf q) H locs ls (lv_sub hl [1] rfl) hP hS
  · exact wX3_far_s18 C n K11 v1 v2 v4 st res hK11 (ie hf q) H locs ls (lv_sub hl [0, 1, 2, 3] rfl) hP hS
def fX3_far_L11 (n : Nat)   : Nat → Int32 → Int64 → Int32 → St → Option (Int32 × St)
  | 0, _, _, _, _ => none
  | k + 1, v1, v2, v4, st => fX3_far_s11 n (fX3_far_L11 n k)  v1 v2 v4 st
theorem wX3_far_L11 (C : Cx p s m args meth c cX3_far 7 wsL_law RX3 (some .int) D G ad) (n : Nat)    (res : (Int32 × St))  : ∀ (k : Nat) (v1 : Int32) (v2 : Int64) (v4 : Int32)  (st : St), fX3_far_L11 n k v1 v2 v4 st = some res → At p l e (rmK 3) s m args below meth c D G ad (MQI D G ad below args s res) 7 st [(0, .ref (ad 37)), (1, .int v1), (2, .long v2), (4, .int v4)] 11 [] := by
  intro k
  induction k with
  | zero => intro v1 v2 v4  st h; exact absurd h (by intro q; cases q)
  | succ k ih => intro v1 v2 v4  st h; exact wX3_far_s11 C n (fX3_far_L11 n k)  v1 v2 v4   st res ih h
def fX3_far_s7 (n : Nat)   (v1 : Int32) (k0 : Int64) (st : St) : Option (Int32 × St) := fX3_far_L11 n n v1 k0 1 st
set_option maxHeartbeats 4000000 in
set_option maxRecDepth 100000 in
theorem wX3_far_s7 (C : Cx p s m args meth c cX3_far 7 wsL_law RX3 (some .int) D G ad) (n : Nat)   (v1 : Int32) (k0 : Int64)   (st : St) (res : (Int32 × St))  (hf : fX3_far_s7 n   v1 k0 st = some res) : At p l e (rmK 3) s m args below meth c D G ad (MQI D G ad below args s res) 7 st [(0, .ref (ad 37)), (1, .int v1)] 7 [.long k0] := by
  obtain ⟨hx, hb, hml, hown, hts, hr, hlk, hK, had, hSt⟩ := id C
  intro H locs ls hl hP hS
  unfold fX3_far_s7 at hf
  refine lv_lstore_n (lv' := [(2, .long k0), (0, .ref (ad 37)), (1, .int v1)]) hx hb dX3_far_7 rfl hl (by decide) rfl (fun ls hl => ?_)
  refine lv_iconst (v := 1) hx hb dX3_far_8 (by decide) ?_
  refine lv_istore (lv' := [(4, .int 1), (2, .long k0), (0, .ref (ad 37)), (1, .int v1)]) hx hb dX3_far_9 hl (by decide) rfl (fun ls hl => ?_)
  exact wX3_far_L11 C n res n v1 k0 1 st hf H locs ls (lv_sub hl [2, 3, 1, 0] rfl) hP hS
def fX3_far_s0 (n : Nat)    (st : St) : Option (Int32 × St) := (fX3_farCost n 0 st).bind (fun q => fX3_far_s7 n 0 q.1 q.2)
set_option maxHeartbeats 4000000 in
set_option maxRecDepth 100000 in
theorem wX3_far_s0 (C : Cx p s m args meth c cX3_far 7 wsL_law RX3 (some .int) D G ad) (n : Nat)      (st : St) (res : (Int32 × St))  (hf : fX3_far_s0 n    st = some res) : At p l e (rmK 3) s m args below meth c D G ad (MQI D G ad below args s res) 7 st [(0, .ref (ad 37))] 0 [] := by
  obtain ⟨hx, hb, hml, hown, hts, hr, hlk, hK, had, hSt⟩ := id C
  intro H locs ls hl hP hS
  unfold fX3_far_s0 at hf
  refine lv_iconst (v := 0) hx hb dX3_far_0 (by decide) ?_
  refine lv_istore_n (lv' := [(1, .int 0), (0, .ref (ad 37))]) hx hb dX3_far_1 rfl hl (by decide) rfl (fun ls hl => ?_)
  refine lv_aload_n hx hb dX3_far_2 rfl (lv_at hl 1 rfl) ?_
  refine lv_iconst (v := 0) hx hb dX3_far_3 (by decide) ?_
  obtain ⟨q, hq, hf⟩ := bd hf
  refine gcV_j (k := 2) (o := 37) (As := [.int 0]) (rest := []) hx hb hml hown hts hK hSt hP hS hl.1 (goodV wm_42_13 wm_42_14 wm_42_15 wm_2_19 wm_42_16) okX3_farCost ct_37 rfl rfl (Nat.le_of_ble_eq_true rfl) (Nat.le_of_ble_eq_true rfl) rfl rfl (Nat.le_of_ble_eq_true rfl) dX3_far_4 (kX3_farCost l D G ad had n  0 st q hq) (fun H locs hP hS => ?_)
  exact wX3_far_s7 C n 0 q.1 q.2 res hf H locs ls (lv_sub hl [1, 0] rfl) hP hS
def fX3_far (n : Nat)   (st : St) : Option (Int32 × St) := fX3_far_s0 n st
theorem okX3_far : okY yX3_far RX3 0 := by unfold okY; decide +kernel
end
set_option maxRecDepth 100000 in
theorem kX3_far (l : Launch) (D : va_G) (G : G3) (ad : Nat → Nat) (had : Adr ad) (n : Nat)    (st : St) (res : (Int32 × St)) (hf : fX3_far n   st = some res) {sz : Nat} : CtI l yX3_far (wsU yX3_far cX3_far 7 (some .int)) (rmK 3) D G ad sz [.ref (ad 37)] st res := by
  refine Met.ofW (cc := cX3_far) (maxL := 7) (ret := (some .int)) (by decide) rfl ?_
  intro p e s m args below meth c s₁ B hml hv
  obtain ⟨rfl, hsz, hP, hK, hSt⟩ := hv
  have hts := atoms_spec (ws := wsU yX3_far cX3_far 7 (some .int)) B.pre
  have C : Cx p s m _ meth c cX3_far 7 wsL_law RX3 (some .int) D G ad := ⟨B.exec, B.bytes, hml, findClass_of_methodNamed B.named, fun w h => hts w (List.mem_cons_of_mem _ h), B.returns, B.notSynchronized, hK, had, hSt⟩
  subst hsz
  have hl := lv_entry ([.ref (ad 37)]) (n := 7) (Nat.le_of_ble_eq_true rfl)
  rw [lg_entry_eq]
  generalize (lg_sl ([.ref (ad 37)]) ++ List.replicate (7 - (lg_sl ([.ref (ad 37)])).length) Slot.unset).toArray = ls at hl ⊢
  exact wX3_far_s0 C n     st res hf s.heap [] ls (lv_sub hl [0] rfl) hP va_S.rf
