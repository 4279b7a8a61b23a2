theorem wm_1_2 : Cond.initialized RX10 ∈ wsL_law := in_r1 _ (mm_at 2 rfl)
theorem wm_2_23 : Cond.initialized RX0 ∈ wsL_law := in_r2 _ (mm_at 23 rfl)
theorem wm_6_7 : Cond.fieldLink RX0 10 "OrderEcho$Claims" "share" "LOrderEcho$Share;" ∈ wsL_law := in_r6 _ (mm_at 7 rfl)
theorem wm_6_8 : Cond.fieldLink RX0 16 "OrderEcho$Claims" "wants" "[I" ∈ wsL_law := in_r6 _ (mm_at 8 rfl)
theorem wm_39_8 : Cond.static yX10_endsBelow ∈ wsL_law := in_r39 _ (mm_at 8 rfl)
theorem wm_39_9 : Cond.code yX10_endsBelow cX10_endsBelow 3 (some .boolean) ∈ wsL_law := in_r39 _ (mm_at 9 rfl)
theorem wm_47_12 : Cond.fieldLink RX0 20 "OrderEcho$Share" "size" "I" ∈ wsL_law := in_r47 _ (mm_at 12 rfl)
theorem wm_47_13 : Cond.methodLink RX0 30 yX8_append ∈ wsL_law := in_r47 _ (mm_at 13 rfl)
theorem wm_47_18 : Cond.fieldLink RX0 43 "OrderEcho$Share" "got" "[I" ∈ wsL_law := in_r47 _ (mm_at 18 rfl)
theorem wm_47_19 : Cond.methodLink RX0 39 yX8_split ∈ wsL_law := in_r47 _ (mm_at 19 rfl)
theorem wm_48_20 : Cond.instanceMethod yX0_isCalm ∈ wsL_law := in_r48 _ (mm_at 20 rfl)
theorem wm_48_21 : Cond.selects RX0 yX0_isCalm yX0_isCalm ∈ wsL_law := in_r48 _ (mm_at 21 rfl)
theorem wm_48_22 : Cond.code yX0_isCalm cX0_isCalm 8 (some .boolean) ∈ wsL_law := in_r48 _ (mm_at 22 rfl)
theorem wm_48_23 : Cond.methodLink RX0 52 Lib.Math.min.name ∈ wsL_law := in_r48 _ (mm_at 23 rfl)
theorem wm_49_0 : Cond.fieldLink RX0 36 "OrderEcho$Share" "claims" "[I" ∈ wsL_law := in_r49 _ (mm_at 0 rfl)
theorem wm_49_1 : Cond.methodLink RX0 56 yX0_distance ∈ wsL_law := in_r49 _ (mm_at 1 rfl)
theorem wm_49_2 : Cond.instanceMethod yX0_distance ∈ wsL_law := in_r49 _ (mm_at 2 rfl)
theorem wm_49_3 : Cond.selects RX0 yX0_distance yX0_distance ∈ wsL_law := in_r49 _ (mm_at 3 rfl)
theorem wm_49_4 : Cond.code yX0_distance cX0_distance 4 (some .int) ∈ wsL_law := in_r49 _ (mm_at 4 rfl)
theorem wm_49_5 : Cond.methodLink RX0 46 Lib.Math.abs.name ∈ wsL_law := in_r49 _ (mm_at 5 rfl)
theorem wm_49_6 : Cond.static Lib.Math.abs.name ∈ wsL_law := in_r49 _ (mm_at 6 rfl)
theorem wm_49_7 : Cond.code Lib.Math.abs.name Lib.Math.abs.code 1 (some .int) ∈ wsL_law := in_r49 _ (mm_at 7 rfl)
theorem wm_50_0 : Cond.methodLink RX0 60 yX0_isCalm ∈ wsL_law := in_r50 _ (mm_at 0 rfl)
theorem wm_50_5 : Cond.constantLong RX0 34 (16) ∈ wsL_law := in_r50 _ (mm_at 5 rfl)
section
variable {p : Program} {l : Launch} {e : Env} {s : State} {m : MethodId} {args : Array Value} {below : List Frame} {meth : Method} {c : Code} {D : va_G} {G : G3} {ad : Nat → Nat}
def fX10_endsBelow_s13 (n : Nat)   (k0 : Int32) (st : St) : Option (Int32 × St) := if zb k0 = true then (some (k0, st)) else none
set_option maxHeartbeats 4000000 in
set_option maxRecDepth 100000 in
theorem wX10_endsBelow_s13 (C : Cx p s m args meth c cX10_endsBelow 3 wsL_law RX10 (some .boolean) D G ad) (n : Nat)   (k0 : Int32)   (st : St) (res : (Int32 × St))  (hf : fX10_endsBelow_s13 n   k0 st = some res) : At p l e (rmK 0) s m args below meth c D G ad (MQI D G ad below args s res) 3 st [] 13 [.int k0] := by
  obtain ⟨hx, hb, hml, hown, hts, hr, hlk, hK, had, hSt⟩ := id C
  intro H locs ls hl hP hS
  unfold fX10_endsBelow_s13 at hf
  obtain ⟨gz, hf⟩ := gd hf
  exact g_zret hx hb hr hlk hP hS (zb_of gz) dX10_endsBelow_13 hf
def fX10_endsBelow_s12 (n : Nat)    (st : St) : Option (Int32 × St) := fX10_endsBelow_s13 n 0 st
set_option maxHeartbeats 4000000 in
set_option maxRecDepth 100000 in
theorem wX10_endsBelow_s12 (C : Cx p s m args meth c cX10_endsBelow 3 wsL_law RX10 (some .boolean) D G ad) (n : Nat)      (st : St) (res : (Int32 × St))  (hf : fX10_endsBelow_s12 n    st = some res) : At p l e (rmK 0) s m args below meth c D G ad (MQI D G ad below args s res) 3 st [] 12 [] := by
  obtain ⟨hx, hb, hml, hown, hts, hr, hlk, hK, had, hSt⟩ := id C
  intro H locs ls hl hP hS
  unfold fX10_endsBelow_s12 at hf
  refine lv_iconst (v := 0) hx hb dX10_endsBelow_12 (by decide) ?_
  exact wX10_endsBelow_s13 C n 0 st res hf H locs ls (lv_sub hl [] rfl) hP hS
def fX10_endsBelow_s8 (n : Nat)    (st : St) : Option (Int32 × St) := fX10_endsBelow_s13 n 1 st
set_option maxHeartbeats 4000000 in
set_option maxRecDepth 100000 in
theorem wX10_endsBelow_s8 (C : Cx p s m args meth c cX10_endsBelow 3 wsL_law RX10 (some .boolean) D G ad) (n : Nat)      (st : St) (res : (Int32 × St))  (hf : fX10_endsBelow_s8 n    st = some res) : At p l e (rmK 0) s m args below meth c D G ad (MQI D G ad below args s res) 3 st [] 8 [] := by
  obtain ⟨hx, hb, hml, hown, hts, hr, hlk, hK, had, hSt⟩ := id C
  intro H locs ls hl hP hS
  unfold fX10_endsBelow_s8 at hf
  refine lv_iconst (v := 1) hx hb dX10_endsBelow_8 (by decide) ?_
  refine lv_goto (tgt := 13) hx hb dX10_endsBelow_9 (by decide) ?_
  exact wX10_endsBelow_s13 C n 1 st res hf H locs ls (lv_sub hl [] rfl) hP hS
def fX10_endsBelow_s0 (n : Nat)   (v0 : Int64) (v2 : Int32) (st : St) : Option (Int32 × St) := if ((v0.toUInt64 >>> (v2.toInt64.toUInt64 &&& Int64.toUInt64 63)).toInt64) = 0 then fX10_endsBelow_s8 n st else fX10_endsBelow_s12 n st
set_option maxHeartbeats 4000000 in
set_option maxRecDepth 100000 in
theorem wX10_endsBelow_s0 (C : Cx p s m args meth c cX10_endsBelow 3 wsL_law RX10 (some .boolean) D G ad) (n : Nat)   (v0 : Int64) (v2 : Int32)   (st : St) (res : (Int32 × St))  (hf : fX10_endsBelow_s0 n   v0 v2 st = some res) : At p l e (rmK 0) s m args below meth c D G ad (MQI D G ad below args s res) 3 st [(0, .long v0), (2, .int v2)] 0 [] := by
  obtain ⟨hx, hb, hml, hown, hts, hr, hlk, hK, had, hSt⟩ := id C
  intro H locs ls hl hP hS
  unfold fX10_endsBelow_s0 at hf
  refine lv_lload_n hx hb dX10_endsBelow_0 rfl (lv_at hl 0 rfl) ?_
  refine lv_iload_n hx hb dX10_endsBelow_1 rfl (lv_at hl 1 rfl) ?_
  refine lv_lushr hx hb dX10_endsBelow_2 rfl ?_
  refine lv_lconst (v := 0) hx hb dX10_endsBelow_3 (by decide) ?_
  refine g_lcmp_ne (tgt := 12) hx hb dX10_endsBelow_4 dX10_endsBelow_5 (by decide) (fun q => ?_) (fun q => ?_)
  · exact wX10_endsBelow_s12 C n st res (ie hf q) H locs ls (lv_sub hl [] rfl) hP hS
  · exact wX10_endsBelow_s8 C n st res (it hf q) H locs ls (lv_sub hl [] rfl) hP hS
def fX10_endsBelow (n : Nat)  (a0 : Int64) (a2 : Int32) (st : St) : Option (Int32 × St) := fX10_endsBelow_s0 n a0 a2 st
theorem okX10_endsBelow : okY yX10_endsBelow RX10 2 := by unfold okY; decide +kernel
end
set_option maxRecDepth 100000 in
theorem kX10_endsBelow (l : Launch) (D : va_G) (G : G3) (ad : Nat → Nat) (had : Adr ad) (n : Nat)   (a0 : Int64) (a2 : Int32) (st : St) (res : (Int32 × St)) (hf : fX10_endsBelow n  a0 a2 st = some res) {sz : Nat} : CtI l yX10_endsBelow (wsU yX10_endsBelow cX10_endsBelow 3 (some .boolean)) (rmK 0) D G ad sz [.long a0, .int a2] st res := by
  refine Met.ofW (cc := cX10_endsBelow) (maxL := 3) (ret := (some .boolean)) (by decide) rfl ?_
  intro p e s m args below meth c s₁ B hml hv
  obtain ⟨rfl, hsz, hP, hK, hSt⟩ := hv
  have hts := atoms_spec (ws := wsU yX10_endsBelow cX10_endsBelow 3 (some .boolean)) B.pre
  have C : Cx p s m _ meth c cX10_endsBelow 3 wsL_law RX10 (some .boolean) D G ad := ⟨B.exec, B.bytes, hml, findClass_of_methodNamed B.named, fun w h => hts w (List.mem_cons_of_mem _ h), B.returns, B.notSynchronized, hK, had, hSt⟩
  subst hsz
  have hl := lv_entry ([.long a0, .int a2]) (n := 3) (Nat.le_of_ble_eq_true rfl)
  rw [lg_entry_eq]
  generalize (lg_sl ([.long a0, .int a2]) ++ List.replicate (3 - (lg_sl ([.long a0, .int a2])).length) Slot.unset).toArray = ls at hl ⊢
  exact wX10_endsBelow_s0 C n  a0 a2   st res hf s.heap [] ls (lv_sub hl [0, 1] rfl) hP va_S.rf
section
variable {p : Program} {l : Launch} {e : Env} {s : State} {m : MethodId} {args : Array Value} {below : List Frame} {meth : Method} {c : Code} {D : va_G} {G : G3} {ad : Nat → Nat}
def fX0_readClaims_s78 (n : Nat)   (v4 : Int32) (st : St) : Option (Int32 × St) := if zb v4 = true then (some (v4, st)) else none
set_option maxHeartbeats 4000000 in
set_option maxRecDepth 100000 in
theorem wX0_readClaims_s78 (C : Cx p s m args meth c cX0_readClaims 7 wsL_law RX0 (some .boolean) D G ad) (n : Nat)   (v4 : Int32)   (st : St) (res : (Int32 × St))  (hf : fX0_readClaims_s78 n   v4 st = some res) : At p l e (rmK 1) s m args below meth c D G ad (MQI D G ad below args s res) 7 st [(4, .int v4)] 78 [] := by
  obtain ⟨hx, hb, hml, hown, hts, hr, hlk, hK, had, hSt⟩ := id C
  intro H locs ls hl hP hS
  unfold fX0_readClaims_s78 at hf
  refine lv_iload hx hb dX0_readClaims_78 (lv_at hl 0 rfl) ?_
  obtain ⟨gz, hf⟩ := gd hf
  exact g_zret hx hb hr hlk hP hS (zb_of gz) dX0_readClaims_80 hf
def fX0_readClaims_s72 (n : Nat) (K20 : Int64 → Int32 → Int32 → Int32 → St → Option (Int32 × St))  (v1 : Int64) (v3 : Int32) (v4 : Int32) (v5 : Int32) (st : St) : Option (Int32 × St) := K20 v1 v3 v4 (v5 + 1) st
set_option maxHeartbeats 4000000 in
set_option maxRecDepth 100000 in
theorem wX0_readClaims_s72 (C : Cx p s m args meth c cX0_readClaims 7 wsL_law RX0 (some .boolean) D G ad) (n : Nat) (K20 : Int64 → Int32 → Int32 → Int32 → St → Option (Int32 × St))  (v1 : Int64) (v3 : Int32) (v4 : Int32) (v5 : Int32)   (st : St) (res : (Int32 × St)) (hK20 : ∀ (v1 : Int64) (v3 : Int32) (v4 : Int32) (v5 : Int32) (st : St), K20 v1 v3 v4 v5 st = some res → At p l e (rmK 1) s m args below meth c D G ad (MQI D G ad below args s res) 7 st [(0, .ref (ad 43)), (1, .long v1), (3, .int v3), (4, .int v4), (5, .int v5)] 20 []) (hf : fX0_readClaims_s72 n K20  v1 v3 v4 v5 st = some res) : At p l e (rmK 1) s m args below meth c D G ad (MQI D G ad below args s res) 7 st [(0, .ref (ad 43)), (1, .long v1), (3, .int v3), (4, .int v4), (5, .int v5)] 72 [] := by
  obtain ⟨hx, hb, hml, hown, hts, hr, hlk, hK, had, hSt⟩ := id C
  intro H locs ls hl hP hS
  unfold fX0_readClaims_s72 at hf
  refine lv_iinc (v := v5 + 1) (lv' := [(5, .int (v5 + 1)), (0, .ref (ad 43)), (1, .long v1), (3, .int v3), (4, .int v4)]) hx hb dX0_readClaims_72 hl (k := 4) rfl rfl (by decide) rfl (fun ls hl => ?_)
  refine lv_goto (tgt := 20) hx hb dX0_readClaims_75 (by decide) ?_
  exact hK20 v1 v3 v4 (v5 + 1)  st hf H locs ls (lv_sub hl [1, 2, 3, 4, 0] rfl) hP hS
def fX0_readClaims_s61 (n : Nat) (K20 : Int64 → Int32 → Int32 → Int32 → St → Option (Int32 × St))  (v1 : Int64) (v3 : Int32) (v5 : Int32) (v6 : Int32) (k0 : Int32) (st : St) : Option (Int32 × St) := (fX8_append n 44 v6 st).bind (fun q => fX0_readClaims_s72 n K20 v1 v3 k0 v5 q.2)
set_option maxHeartbeats 4000000 in
set_option maxRecDepth 100000 in
theorem wX0_readClaims_s61 (C : Cx p s m args meth c cX0_readClaims 7 wsL_law RX0 (some .boolean) D G ad) (n : Nat) (K20 : Int64 → Int32 → Int32 → Int32 → St → Option (Int32 × St))  (v1 : Int64) (v3 : Int32) (v5 : Int32) (v6 : Int32) (k0 : Int32)   (st : St) (res : (Int32 × St)) (hK20 : ∀ (v1 : Int64) (v3 : Int32) (v4 : Int32) (v5 : Int32) (st : St), K20 v1 v3 v4 v5 st = some res → At p l e (rmK 1) s m args below meth c D G ad (MQI D G ad below args s res) 7 st [(0, .ref (ad 43)), (1, .long v1), (3, .int v3), (4, .int v4), (5, .int v5)] 20 []) (hf : fX0_readClaims_s61 n K20  v1 v3 v5 v6 k0 st = some res) : At p l e (rmK 1) s m args below meth c D G ad (MQI D G ad below args s res) 7 st [(0, .ref (ad 43)), (1, .long v1), (3, .int v3), (5, .int v5), (6, .int v6)] 61 [.int k0] := by
  obtain ⟨hx, hb, hml, hown, hts, hr, hlk, hK, had, hSt⟩ := id C
  intro H locs ls hl hP hS
  unfold fX0_readClaims_s61 at hf
  refine lv_istore (lv' := [(4, .int k0), (0, .ref (ad 43)), (1, .long v1), (3, .int v3), (5, .int v5), (6, .int v6)]) hx hb dX0_readClaims_61 hl (by decide) rfl (fun ls hl => ?_)
  refine lv_aload_n hx hb dX0_readClaims_63 rfl (lv_at hl 1 rfl) ?_
  refine g_getR hx hb hts inlX0 hown hK hP 43 ct_43 rfl 0 (by decide) (hts _ wm_6_7) rfl dX0_readClaims_64 ?_
  refine lv_iload hx hb dX0_readClaims_67 (lv_at hl 5 rfl) ?_
  obtain ⟨q, hq, hf⟩ := bd hf
  refine gcV_v (k := 0) (o := 44) (As := [.int v6]) (rest := []) hx hb hml hown hts hK hSt hP hS hl.1 (goodV wm_47_13 wm_19_1 wm_19_2 wm_2_3 wm_19_3) okX8_append ct_44 rfl rfl (Nat.le_of_ble_eq_true rfl) (Nat.le_of_ble_eq_true rfl) rfl rfl (Nat.le_of_ble_eq_true rfl) dX0_readClaims_69 (kX8_append l D G ad had n 44 isSh_lit_44 v6 st q hq) (fun H locs hP hS => ?_)
  exact wX0_readClaims_s72 C n K20 v1 v3 k0 v5 q.2 res hK20 hf H locs ls (lv_sub hl [1, 2, 3, 0, 4] rfl) hP hS
def fX0_readClaims_s60 (n : Nat) (K20 : Int64 → Int32 → Int32 → Int32 → St → Option (Int32 × St))  (v1 : Int64) (v3 : Int32) (v5 : Int32) (v6 : Int32) (st : St) : Option (Int32 × St) := fX0_readClaims_s61 n K20 v1 v3 v5 v6 0 st
set_option maxHeartbeats 4000000 in
set_option maxRecDepth 100000 in
theorem wX0_readClaims_s60 (C : Cx p s m args meth c cX0_readClaims 7 wsL_law RX0 (some .boolean) D G ad) (n : Nat) (K20 : Int64 → Int32 → Int32 → Int32 → St → Option (Int32 × St))  (v1 : Int64) (v3 : Int32) (v5 : Int32) (v6 : Int32)   (st : St) (res : (Int32 × St)) (hK20 : ∀ (v1 : Int64) (v3 : Int32) (v4 : Int32) (v5 : Int32) (st : St), K20 v1 v3 v4 v5 st = some res → At p l e (rmK 1) s m args below meth c D G ad (MQI D G ad below args s res) 7 st [(0, .ref (ad 43)), (1, .long v1), (3, .int v3), (4, .int v4), (5, .int v5)] 20 []) (hf : fX0_readClaims_s60 n K20  v1 v3 v5 v6 st = some res) : At p l e (rmK 1) s m args below meth c D G ad (MQI D G ad below args s res) 7 st [(0, .ref (ad 43)), (1, .long v1), (3, .int v3), (5, .int v5), (6, .int v6)] 60 [] := by
  obtain ⟨hx, hb, hml, hown, hts, hr, hlk, hK, had, hSt⟩ := id C
  intro H locs ls hl hP hS
  unfold fX0_readClaims_s60 at hf
  refine lv_iconst (v := 0) hx hb dX0_readClaims_60 (by decide) ?_
  exact wX0_readClaims_s61 C n K20 v1 v3 v5 v6 0 st res hK20 hf H locs ls (lv_sub hl [0, 1, 2, 3, 4] rfl) hP hS
def fX0_readClaims_s56 (n : Nat) (K20 : Int64 → Int32 → Int32 → Int32 → St → Option (Int32 × St))  (v1 : Int64) (v3 : Int32) (v5 : Int32) (v6 : Int32) (st : St) : Option (Int32 × St) := fX0_readClaims_s61 n K20 v1 v3 v5 v6 1 st
set_option maxHeartbeats 4000000 in
set_option maxRecDepth 100000 in
theorem wX0_readClaims_s56 (C : Cx p s m args meth c cX0_readClaims 7 wsL_law RX0 (some .boolean) D G ad) (n : Nat) (K20 : Int64 → Int32 → Int32 → Int32 → St → Option (Int32 × St))  (v1 : Int64) (v3 : Int32) (v5 : Int32) (v6 : Int32)   (st : St) (res : (Int32 × St)) (hK20 : ∀ (v1 : Int64) (v3 : Int32) (v4 : Int32) (v5 : Int32) (st : St), K20 v1 v3 v4 v5 st = some res → At p l e (rmK 1) s m args below meth c D G ad (MQI D G ad below args s res) 7 st [(0, .ref (ad 43)), (1, .long v1), (3, .int v3), (4, .int v4), (5, .int v5)] 20 []) (hf : fX0_readClaims_s56 n K20  v1 v3 v5 v6 st = some res) : At p l e (rmK 1) s m args below meth c D G ad (MQI D G ad below args s res) 7 st [(0, .ref (ad 43)), (1, .long v1), (3, .int v3), (5, .int v5), (6, .int v6)] 56 [] := by
  obtain ⟨hx, hb, hml, hown, hts, hr, hlk, hK, had, hSt⟩ := id C
  intro H locs ls hl hP hS
  unfold fX0_readClaims_s56 at hf
  refine lv_iconst (v := 1) hx hb dX0_readClaims_56 (by decide) ?_
  refine lv_goto (tgt := 61) hx hb dX0_readClaims_57 (by decide) ?_
  exact wX0_readClaims_s61 C n K20 v1 v3 v5 v6 1 st res hK20 hf H locs ls (lv_sub hl [0, 1, 2, 3, 4] rfl) hP hS
def fX0_readClaims_s49 (n : Nat) (K20 : Int64 → Int32 → Int32 → Int32 → St → Option (Int32 × St))  (v1 : Int64) (v3 : Int32) (v5 : Int32) (v6 : Int32) (st : St) : Option (Int32 × St) := if 12 < v6 then fX0_readClaims_s60 n K20 v1 v3 v5 v6 st else fX0_readClaims_s56 n K20 v1 v3 v5 v6 st
set_option maxHeartbeats 4000000 in
set_option maxRecDepth 100000 in
theorem wX0_readClaims_s49 (C : Cx p s m args meth c cX0_readClaims 7 wsL_law RX0 (some .boolean) D G ad) (n : Nat) (K20 : Int64 → Int32 → Int32 → Int32 → St → Option (Int32 × St))  (v1 : Int64) (v3 : Int32) (v5 : Int32) (v6 : Int32)   (st : St) (res : (Int32 × St)) (hK20 : ∀ (v1 : Int64) (v3 : Int32) (v4 : Int32) (v5 : Int32) (st : St), K20 v1 v3 v4 v5 st = some res → At p l e (rmK 1) s m args below meth c D G ad (MQI D G ad below args s res) 7 st [(0, .ref (ad 43)), (1, .long v1), (3, .int v3), (4, .int v4), (5, .int v5)] 20 []) (hf : fX0_readClaims_s49 n K20  v1 v3 v5 v6 st = some res) : At p l e (rmK 1) s m args below meth c D G ad (MQI D G ad below args s res) 7 st [(0, .ref (ad 43)), (1, .long v1), (3, .int v3), (5, .int v5), (6, .int v6)] 49 [] := by
  obtain ⟨hx, hb, hml, hown, hts, hr, hlk, hK, had, hSt⟩ := id C
  intro H locs ls hl hP hS
  unfold fX0_readClaims_s49 at hf
  refine lv_iload hx hb dX0_readClaims_49 (lv_at hl 4 rfl) ?_
  refine lv_bipush (v := 12) hx hb dX0_readClaims_51 (by decide) ?_
  refine lv_icmp_gt (tgt := 60) hx hb dX0_readClaims_53 (by decide) (fun q => ?_) (fun q => ?_)
  · exact wX0_readClaims_s60 C n K20 v1 v3 v5 v6 st res hK20 (it hf q) H locs ls (lv_sub hl [0, 1, 2, 3, 4] rfl) hP hS
  · exact wX0_readClaims_s56 C n K20 v1 v3 v5 v6 st res hK20 (ie hf q) H locs ls (lv_sub hl [0, 1, 2, 3, 4] rfl) hP hS
def fX0_readClaims_s32 (n : Nat) (K20 : Int64 → Int32 → Int32 → Int32 → St → Option (Int32 × St))  (v1 : Int64) (v3 : Int32) (v4 : Int32) (v5 : Int32) (st : St) : Option (Int32 × St) := if v4 = 0 then fX0_readClaims_s60 n K20 v1 v3 v5 ((((v1.toUInt64 >>> ((4 * v5).toInt64.toUInt64 &&& Int64.toUInt64 63)).toInt64).toInt32) &&& 15) st else fX0_readClaims_s49 n K20 v1 v3 v5 ((((v1.toUInt64 >>> ((4 * v5).toInt64.toUInt64 &&& Int64.toUInt64 63)).toInt64).toInt32) &&& 15) st
set_option maxHeartbeats 4000000 in
set_option maxRecDepth 100000 in
theorem wX0_readClaims_s32 (C : Cx p s m args meth c cX0_readClaims 7 wsL_law RX0 (some .boolean) D G ad) (n : Nat) (K20 : Int64 → Int32 → Int32 → Int32 → St → Option (Int32 × St))  (v1 : Int64) (v3 : Int32) (v4 : Int32) (v5 : Int32)   (st : St) (res : (Int32 × St)) (hK20 : ∀ (v1 : Int64) (v3 : Int32) (v4 : Int32) (v5 : Int32) (st : St), K20 v1 v3 v4 v5 st = some res → At p l e (rmK 1) s m args below meth c D G ad (MQI D G ad below args s res) 7 st [(0, .ref (ad 43)), (1, .long v1), (3, .int v3), (4, .int v4), (5, .int v5)] 20 []) (hf : fX0_readClaims_s32 n K20  v1 v3 v4 v5 st = some res) : At p l e (rmK 1) s m args below meth c D G ad (MQI D G ad below args s res) 7 st [(0, .ref (ad 43)), (1, .long v1), (3, .int v3), (4, .int v4), (5, .int v5)] 32 [] := by
  obtain ⟨hx, hb, hml, hown, hts, hr, hlk, hK, had, hSt⟩ := id C
  intro H locs ls hl hP hS
  unfold fX0_readClaims_s32 at hf
  refine lv_lload_n hx hb dX0_readClaims_32 rfl (lv_at hl 1 rfl) ?_
  refine lv_iconst (v := 4) hx hb dX0_readClaims_33 (by decide) ?_
  refine lv_iload hx hb dX0_readClaims_34 (lv_at hl 4 rfl) ?_
  refine lv_imul hx hb dX0_readClaims_36 ?_
  refine lv_lushr hx hb dX0_readClaims_37 rfl ?_
  refine lv_l2i hx hb dX0_readClaims_38 rfl ?_
  refine lv_bipush (v := 15) hx hb dX0_readClaims_39 (by decide) ?_
  refine lv_iand hx hb dX0_readClaims_41 ?_
  refine lv_istore (lv' := [(6, .int ((((v1.toUInt64 >>> ((4 * v5).toInt64.toUInt64 &&& Int64.toUInt64 63)).toInt64).toInt32) &&& 15)), (0, .ref (ad 43)), (1, .long v1), (3, .int v3), (4, .int v4), (5, .int v5)]) hx hb dX0_readClaims_42 hl (by decide) rfl (fun ls hl => ?_)
  refine lv_iload hx hb dX0_readClaims_44 (lv_at hl 4 rfl) ?_
  refine lv_if_eq (tgt := 60) hx hb dX0_readClaims_46 (by decide) (fun q => ?_) (fun q => ?_)
  · exact wX0_readClaims_s60 C n K20 v1 v3 v5 ((((v1.toUInt64 >>> ((4 * v5).toInt64.toUInt64 &&& Int64.toUInt64 63)).toInt64).toInt32) &&& 15) st res hK20 (it hf q) H locs ls (lv_sub hl [1, 2, 3, 5, 0] rfl) hP hS
  · exact wX0_readClaims_s49 C n K20 v1 v3 v5 ((((v1.toUInt64 >>> ((4 * v5).toInt64.toUInt64 &&& Int64.toUInt64 63)).toInt64).toInt32) &&& 15) st res hK20 (ie hf q) H locs ls (lv_sub hl [1, 2, 3, 5, 0] rfl) hP hS
def fX0_readClaims_s26 (n : Nat) (K20 : Int64 → Int32 → Int32 → Int32 → St → Option (Int32 × St))  (v1 : Int64) (v3 : Int32) (v4 : Int32) (v5 : Int32) (st : St) : Option (Int32 × St) := if 4 ≤ v5 then fX0_readClaims_s78 n v4 st else fX0_readClaims_s32 n K20 v1 v3 v4 v5 st
set_option maxHeartbeats 4000000 in
set_option maxRecDepth 100000 in
theorem wX0_readClaims_s26 (C : Cx p s m args meth c cX0_readClaims 7 wsL_law RX0 (some .boolean) D G ad) (n : Nat) (K20 : Int64 → Int32 → Int32 → Int32 → St → Option (Int32 × St))  (v1 : Int64) (v3 : Int32) (v4 : Int32) (v5 : Int32)   (st : St) (res : (Int32 × St)) (hK20 : ∀ (v1 : Int64) (v3 : Int32) (v4 : Int32) (v5 : Int32) (st : St), K20 v1 v3 v4 v5 st = some res → At p l e (rmK 1) s m args below meth c D G ad (MQI D G ad below args s res) 7 st [(0, .ref (ad 43)), (1, .long v1), (3, .int v3), (4, .int v4), (5, .int v5)] 20 []) (hf : fX0_readClaims_s26 n K20  v1 v3 v4 v5 st = some res) : At p l e (rmK 1) s m args below meth c D G ad (MQI D G ad below args s res) 7 st [(0, .ref (ad 43)), (1, .long v1), (3, .int v3), (4, .int v4), (5, .int v5)] 26 [] := by
  obtain ⟨hx, hb, hml, hown, hts, hr, hlk, hK, had, hSt⟩ := id C
  intro H locs ls hl hP hS
  unfold fX0_readClaims_s26 at hf
  refine lv_iload hx hb dX0_readClaims_26 (lv_at hl 4 rfl) ?_
  refine lv_iconst (v := 4) hx hb dX0_readClaims_28 (by decide) ?_
  refine lv_icmp_ge (tgt := 78) hx hb dX0_readClaims_29 (by decide) (fun q => ?_) (fun q => ?_)
  · exact wX0_readClaims_s78 C n v4 st res (it hf q) H locs ls (lv_sub hl [3] rfl) hP hS
  · exact wX0_readClaims_s32 C n K20 v1 v3 v4 v5 st res hK20 (ie hf q) H locs ls (lv_sub hl [0, 1, 2, 3, 4] rfl) hP hS
def fX0_readClaims_s20 (n : Nat) (K20 : Int64 → Int32 → Int32 → Int32 → St → Option (Int32 × St))  (v1 : Int64) (v3 : Int32) (v4 : Int32) (v5 : Int32) (st : St) : Option (Int32 × St) := if v3 ≤ v5 then fX0_readClaims_s78 n v4 st else fX0_readClaims_s26 n K20 v1 v3 v4 v5 st
set_option maxHeartbeats 4000000 in
set_option maxRecDepth 100000 in
theorem wX0_readClaims_s20 (C : Cx p s m args meth c cX0_readClaims 7 wsL_law RX0 (some .boolean) D G ad) (n : Nat) (K20 : Int64 → Int32 → Int32 → Int32 → St → Option (Int32 × St))  (v1 : Int64) (v3 : Int32) (v4 : Int32) (v5 : Int32)   (st : St) (res : (Int32 × St)) (hK20 : ∀ (v1 : Int64) (v3 : Int32) (v4 : Int32) (v5 : Int32) (st : St), K20 v1 v3 v4 v5 st = some res → At p l e (rmK 1) s m args below meth c D G ad (MQI D G ad below args s res) 7 st [(0, .ref (ad 43)), (1, .long v1), (3, .int v3), (4, .int v4), (5, .int v5)] 20 []) (hf : fX0_readClaims_s20 n K20  v1 v3 v4 v5 st = some res) : At p l e (rmK 1) s m args below meth c D G ad (MQI D G ad below args s res) 7 st [(0, .ref (ad 43)), (1, .long v1), (3, .int v3), (4, .int v4), (5, .int v5)] 20 [] := by
  obtain ⟨hx, hb, hml, hown, hts, hr, hlk, hK, had, hSt⟩ := id C
  intro H locs ls hl hP hS
  unfold fX0_readClaims_s20 at hf
  refine lv_iload hx hb dX0_readClaims_20 (lv_at hl 4 rfl) ?_
  refine lv_iload_n hx hb dX0_readClaims_22 rfl (lv_at hl 2 rfl) ?_
  refine lv_icmp_ge (tgt := 78) hx hb dX0_readClaims_23 (by decide) (fun q => ?_) (fun q => ?_)
  · exact wX0_readClaims_s78 C n v4 st res (it hf q) H locs ls (lv_sub hl [3] rfl) hP hS
  · exact wX0_readClaims_s26 C n K20 v1 v3 v4 v5 st res hK20 (ie hf q) H locs ls (lv_sub hl [0, 1, 2, 3, 4] rfl) hP hS
def fX0_readClaims_L20 (n : Nat)   : Nat → Int64 → Int32 → Int32 → Int32 → St → Option (Int32 × St)
  | 0, _, _, _, _, _ => none
  | k + 1, v1, v3, v4, v5, st => fX0_readClaims_s20 n (fX0_readClaims_L20 n k)  v1 v3 v4 v5 st
theorem wX0_readClaims_L20 (C : Cx p s m args meth c cX0_readClaims 7 wsL_law RX0 (some .boolean) D G ad) (n : Nat)    (res : (Int32 × St))  : ∀ (k : Nat) (v1 : Int64) (v3 : Int32) (v4 : Int32) (v5 : Int32)  (st : St), fX0_readClaims_L20 n k v1 v3 v4 v5 st = some res → At p l e (rmK 1) s m args below meth c D G ad (MQI D G ad below args s res) 7 st [(0, .ref (ad 43)), (1, .long v1), (3, .int v3), (4, .int v4), (5, .int v5)] 20 [] := by
  intro k
  induction k with
  | zero => intro v1 v3 v4 v5  st h; exact absurd h (by intro q; cases q)
  | succ k ih => intro v1 v3 v4 v5  st h; exact wX0_readClaims_s20 C n (fX0_readClaims_L20 n k)  v1 v3 v4 v5   st res ih h
def fX0_readClaims_s15 (n : Nat)   (v1 : Int64) (v3 : Int32) (k0 : Int32) (st : St) : Option (Int32 × St) := fX0_readClaims_L20 n n v1 v3 k0 0 st
set_option maxHeartbeats 4000000 in
set_option maxRecDepth 100000 in
theorem wX0_readClaims_s15 (C : Cx p s m args meth c cX0_readClaims 7 wsL_law RX0 (some .boolean) D G ad) (n : Nat)   (v1 : Int64) (v3 : Int32) (k0 : Int32)   (st : St) (res : (Int32 × St))  (hf : fX0_readClaims_s15 n   v1 v3 k0 st = some res) : At p l e (rmK 1) s m args below meth c D G ad (MQI D G ad below args s res) 7 st [(0, .ref (ad 43)), (1, .long v1), (3, .int v3)] 15 [.int k0] := by
  obtain ⟨hx, hb, hml, hown, hts, hr, hlk, hK, had, hSt⟩ := id C
  intro H locs ls hl hP hS
  unfold fX0_readClaims_s15 at hf
  refine lv_istore (lv' := [(4, .int k0), (0, .ref (ad 43)), (1, .long v1), (3, .int v3)]) hx hb dX0_readClaims_15 hl (by decide) rfl (fun ls hl => ?_)
  refine lv_iconst (v := 0) hx hb dX0_readClaims_17 (by decide) ?_
  refine lv_istore (lv' := [(5, .int 0), (4, .int k0), (0, .ref (ad 43)), (1, .long v1), (3, .int v3)]) hx hb dX0_readClaims_18 hl (by decide) rfl (fun ls hl => ?_)
  exact wX0_readClaims_L20 C n res n v1 v3 k0 0 st hf H locs ls (lv_sub hl [2, 3, 4, 1, 0] rfl) hP hS
def fX0_readClaims_s8 (n : Nat)   (v1 : Int64) (v3 : Int32) (st : St) : Option (Int32 × St) := (fX10_endsBelow n v1 (4 * v3) st).bind (fun q => fX0_readClaims_s15 n v1 v3 q.1 q.2)
set_option maxHeartbeats 4000000 in
set_option maxRecDepth 100000 in
theorem wX0_readClaims_s8 (C : Cx p s m args meth c cX0_readClaims 7 wsL_law RX0 (some .boolean) D G ad) (n : Nat)   (v1 : Int64) (v3 : Int32)   (st : St) (res : (Int32 × St))  (hf : fX0_readClaims_s8 n   v1 v3 st = some res) : At p l e (rmK 1) s m args below meth c D G ad (MQI D G ad below args s res) 7 st [(0, .ref (ad 43)), (1, .long v1), (3, .int v3)] 8 [] := by
  obtain ⟨hx, hb, hml, hown, hts, hr, hlk, hK, had, hSt⟩ := id C
  intro H locs ls hl hP hS
  unfold fX0_readClaims_s8 at hf
  refine lv_lload_n hx hb dX0_readClaims_8 rfl (lv_at hl 1 rfl) ?_
  refine lv_iconst (v := 4) hx hb dX0_readClaims_9 (by decide) ?_
  refine lv_iload_n hx hb dX0_readClaims_10 rfl (lv_at hl 2 rfl) ?_
  refine lv_imul hx hb dX0_readClaims_11 ?_
  obtain ⟨q, hq, hf⟩ := bd hf
  refine gcN_i (k := 0) (As := [.long v1, .int (4 * v3)]) (rest := []) hx hb hml hown hts hK hSt hP hS hl.1 (goodU wm_39_9) wm_39_8 wm_1_2 hK.2.1 okX10_endsBelow (Nat.le_of_ble_eq_true rfl) (Nat.le_of_ble_eq_true rfl) rfl rfl (Nat.le_of_ble_eq_true rfl) dX0_readClaims_12 (kX10_endsBelow l D G ad had n  v1 (4 * v3) st q hq) (fun H locs hP hS => ?_)
  exact wX0_readClaims_s15 C n v1 v3 q.1 q.2 res hf H locs ls (lv_sub hl [0, 1, 2] rfl) hP hS
def fX0_readClaims_s0 (n : Nat)   (v1 : Int64) (v3 : Int32) (st : St) : Option (Int32 × St) := fX0_readClaims_s8 n v1 v3 (setI st 44 2 0)
set_option maxHeartbeats 4000000 in
set_option maxRecDepth 100000 in
theorem wX0_readClaims_s0 (C : Cx p s m args meth c cX0_readClaims 7 wsL_law RX0 (some .boolean) D G ad) (n : Nat)   (v1 : Int64) (v3 : Int32)   (st : St) (res : (Int32 × St))  (hf : fX0_readClaims_s0 n   v1 v3 st = some res) : At p l e (rmK 1) s m args below meth c D G ad (MQI D G ad below args s res) 7 st [(0, .ref (ad 43)), (1, .long v1), (3, .int v3)] 0 [] := by
  obtain ⟨hx, hb, hml, hown, hts, hr, hlk, hK, had, hSt⟩ := id C
  intro H locs ls hl hP hS
  unfold fX0_readClaims_s0 at hf
  refine lv_aload_n hx hb dX0_readClaims_0 rfl (lv_at hl 0 rfl) ?_
  refine g_getR hx hb hts inlX0 hown hK hP 43 ct_43 rfl 0 (by decide) (hts _ wm_6_7) rfl dX0_readClaims_1 ?_
  refine lv_iconst (v := 0) hx hb dX0_readClaims_4 (by decide) ?_
  refine g_putI hx hb hts inlX8 tyX8_ok nmX8 hown hK had hP hS 44 ct_44 rfl 2 (by decide) (hts _ wm_47_12) rfl rfl rfl rfl rfl dX0_readClaims_5 (fun H locs hP hS => ?_)
  exact wX0_readClaims_s8 C n v1 v3 (setI st 44 2 0) res hf H locs ls (lv_sub hl [0, 1, 2] rfl) hP hS
def fX0_readClaims (n : Nat)  (a1 : Int64) (a3 : Int32) (st : St) : Option (Int32 × St) := fX0_readClaims_s0 n a1 a3 st
theorem okX0_readClaims : okY yX0_readClaims RX0 2 := by unfold okY; decide +kernel
end
set_option maxRecDepth 100000 in
theorem kX0_readClaims (l : Launch) (D : va_G) (G : G3) (ad : Nat → Nat) (had : Adr ad) (n : Nat)   (a1 : Int64) (a3 : Int32) (st : St) (res : (Int32 × St)) (hf : fX0_readClaims n  a1 a3 st = some res) {sz : Nat} : CtI l yX0_readClaims (wsU yX0_readClaims cX0_readClaims 7 (some .boolean)) (rmK 1) D G ad sz [.ref (ad 43), .long a1, .int a3] st res := by
  refine Met.ofW (cc := cX0_readClaims) (maxL := 7) (ret := (some .boolean)) (by decide) rfl ?_
  intro p e s m args below meth c s₁ B hml hv
  obtain ⟨rfl, hsz, hP, hK, hSt⟩ := hv
  have hts := atoms_spec (ws := wsU yX0_readClaims cX0_readClaims 7 (some .boolean)) B.pre
  have C : Cx p s m _ meth c cX0_readClaims 7 wsL_law RX0 (some .boolean) D G ad := ⟨B.exec, B.bytes, hml, findClass_of_methodNamed B.named, fun w h => hts w (List.mem_cons_of_mem _ h), B.returns, B.notSynchronized, hK, had, hSt⟩
  subst hsz
  have hl := lv_entry ([.ref (ad 43), .long a1, .int a3]) (n := 7) (Nat.le_of_ble_eq_true rfl)
  rw [lg_entry_eq]
  generalize (lg_sl ([.ref (ad 43), .long a1, .int a3]) ++ List.replicate (7 - (lg_sl ([.ref (ad 43), .long a1, .int a3])).length) Slot.unset).toArray = ls at hl ⊢
  exact wX0_readClaims_s0 C n  a1 a3   st res hf s.heap [] ls (lv_sub hl [0, 1, 2] rfl) hP va_S.rf
section
variable {p : Program} {l : Launch} {e : Env} {s : State} {m : MethodId} {args : Array Value} {below : List Frame} {meth : Method} {c : Code} {D : va_G} {G : G3} {ad : Nat → Nat}
def fX0_readWants_s87 (n : Nat)   (v4 : Int32) (st : St) : Option (Int32 × St) := if zb v4 = true then (some (v4, st)) else none
set_option maxHeartbeats 4000000 in
set_option maxRecDepth 100000 in
theorem wX0_readWants_s87 (C : Cx p s m args meth c cX0_readWants 6 wsL_law RX0 (some .boolean) D G ad) (n : Nat)   (v4 : Int32)   (st : St) (res : (Int32 × St))  (hf : fX0_readWants_s87 n   v4 st = some res) : At p l e (rmK 1) s m args below meth c D G ad (MQI D G ad below args s res) 6 st [(4, .int v4)] 87 [] := by
  obtain ⟨hx, hb, hml, hown, hts, hr, hlk, hK, had, hSt⟩ := id C
  intro H locs ls hl hP hS
  unfold fX0_readWants_s87 at hf
  refine lv_iload hx hb dX0_readWants_87 (lv_at hl 0 rfl) ?_
  obtain ⟨gz, hf⟩ := gd hf
  exact g_zret hx hb hr hlk hP hS (zb_of gz) dX0_readWants_89 hf
def fX0_readWants_s81 (n : Nat) (K20 : Int64 → Int32 → Int32 → Int32 → St → Option (Int32 × St))  (v1 : Int64) (v3 : Int32) (v4 : Int32) (v5 : Int32) (st : St) : Option (Int32 × St) := K20 v1 v3 v4 (v5 + 1) st
set_option maxHeartbeats 4000000 in
set_option maxRecDepth 100000 in
theorem wX0_readWants_s81 (C : Cx p s m args meth c cX0_readWants 6 wsL_law RX0 (some .boolean) D G ad) (n : Nat) (K20 : Int64 → Int32 → Int32 → Int32 → St → Option (Int32 × St))  (v1 : Int64) (v3 : Int32) (v4 : Int32) (v5 : Int32)   (st : St) (res : (Int32 × St)) (hK20 : ∀ (v1 : Int64) (v3 : Int32) (v4 : Int32) (v5 : Int32) (st : St), K20 v1 v3 v4 v5 st = some res → At p l e (rmK 1) s m args below meth c D G ad (MQI D G ad below args s res) 6 st [(0, .ref (ad 43)), (1, .long v1), (3, .int v3), (4, .int v4), (5, .int v5)] 20 []) (hf : fX0_readWants_s81 n K20  v1 v3 v4 v5 st = some res) : At p l e (rmK 1) s m args below meth c D G ad (MQI D G ad below args s res) 6 st [(0, .ref (ad 43)), (1, .long v1), (3, .int v3), (4, .int v4), (5, .int v5)] 81 [] := by
  obtain ⟨hx, hb, hml, hown, hts, hr, hlk, hK, had, hSt⟩ := id C
  intro H locs ls hl hP hS
  unfold fX0_readWants_s81 at hf
  refine lv_iinc (v := v5 + 1) (lv' := [(5, .int (v5 + 1)), (0, .ref (ad 43)), (1, .long v1), (3, .int v3), (4, .int v4)]) hx hb dX0_readWants_81 hl (k := 4) rfl rfl (by decide) rfl (fun ls hl => ?_)
  refine lv_goto (tgt := 20) hx hb dX0_readWants_84 (by decide) ?_
  exact hK20 v1 v3 v4 (v5 + 1)  st hf H locs ls (lv_sub hl [1, 2, 3, 4, 0] rfl) hP hS
def fX0_readWants_s71 (n : Nat) (K20 : Int64 → Int32 → Int32 → Int32 → St → Option (Int32 × St))  (v1 : Int64) (v3 : Int32) (v5 : Int32) (k0 : Int32) (st : St) : Option (Int32 × St) := (fX8_append n 44 0 st).bind (fun q => fX0_readWants_s81 n K20 v1 v3 k0 v5 q.2)
set_option maxHeartbeats 4000000 in
set_option maxRecDepth 100000 in
theorem wX0_readWants_s71 (C : Cx p s m args meth c cX0_readWants 6 wsL_law RX0 (some .boolean) D G ad) (n : Nat) (K20 : Int64 → Int32 → Int32 → Int32 → St → Option (Int32 × St))  (v1 : Int64) (v3 : Int32) (v5 : Int32) (k0 : Int32)   (st : St) (res : (Int32 × St)) (hK20 : ∀ (v1 : Int64) (v3 : Int32) (v4 : Int32) (v5 : Int32) (st : St), K20 v1 v3 v4 v5 st = some res → At p l e (rmK 1) s m args below meth c D G ad (MQI D G ad below args s res) 6 st [(0, .ref (ad 43)), (1, .long v1), (3, .int v3), (4, .int v4), (5, .int v5)] 20 []) (hf : fX0_readWants_s71 n K20  v1 v3 v5 k0 st = some res) : At p l e (rmK 1) s m args below meth c D G ad (MQI D G ad below args s res) 6 st [(0, .ref (ad 43)), (1, .long v1), (3, .int v3), (5, .int v5)] 71 [.int k0] := by
  obtain ⟨hx, hb, hml, hown, hts, hr, hlk, hK, had, hSt⟩ := id C
  intro H locs ls hl hP hS
  unfold fX0_readWants_s71 at hf
  refine lv_istore (lv' := [(4, .int k0), (0, .ref (ad 43)), (1, .long v1), (3, .int v3), (5, .int v5)]) hx hb dX0_readWants_71 hl (by decide) rfl (fun ls hl => ?_)
  refine lv_aload_n hx hb dX0_readWants_73 rfl (lv_at hl 1 rfl) ?_
  refine g_getR hx hb hts inlX0 hown hK hP 43 ct_43 rfl 0 (by decide) (hts _ wm_6_7) rfl dX0_readWants_74 ?_
  refine lv_iconst (v := 0) hx hb dX0_readWants_77 (by decide) ?_
  obtain ⟨q, hq, hf⟩ := bd hf
  refine gcV_v (k := 0) (o := 44) (As := [.int 0]) (rest := []) hx hb hml hown hts hK hSt hP hS hl.1 (goodV wm_47_13 wm_19_1 wm_19_2 wm_2_3 wm_19_3) okX8_append ct_44 rfl rfl (Nat.le_of_ble_eq_true rfl) (Nat.le_of_ble_eq_true rfl) rfl rfl (Nat.le_of_ble_eq_true rfl) dX0_readWants_78 (kX8_append l D G ad had n 44 isSh_lit_44 0 st q hq) (fun H locs hP hS => ?_)
  exact wX0_readWants_s81 C n K20 v1 v3 k0 v5 q.2 res hK20 hf H locs ls (lv_sub hl [1, 2, 3, 0, 4] rfl) hP hS
def fX0_readWants_s70 (n : Nat) (K20 : Int64 → Int32 → Int32 → Int32 → St → Option (Int32 × St))  (v1 : Int64) (v3 : Int32) (v5 : Int32) (st : St) : Option (Int32 × St) := fX0_readWants_s71 n K20 v1 v3 v5 0 st
set_option maxHeartbeats 4000000 in
set_option maxRecDepth 100000 in
theorem wX0_readWants_s70 (C : Cx p s m args meth c cX0_readWants 6 wsL_law RX0 (some .boolean) D G ad) (n : Nat) (K20 : Int64 → Int32 → Int32 → Int32 → St → Option (Int32 × St))  (v1 : Int64) (v3 : Int32) (v5 : Int32)   (st : St) (res : (Int32 × St)) (hK20 : ∀ (v1 : Int64) (v3 : Int32) (v4 : Int32) (v5 : Int32) (st : St), K20 v1 v3 v4 v5 st = some res → At p l e (rmK 1) s m args below meth c D G ad (MQI D G ad below args s res) 6 st [(0, .ref (ad 43)), (1, .long v1), (3, .int v3), (4, .int v4), (5, .int v5)] 20 []) (hf : fX0_readWants_s70 n K20  v1 v3 v5 st = some res) : At p l e (rmK 1) s m args below meth c D G ad (MQI D G ad below args s res) 6 st [(0, .ref (ad 43)), (1, .long v1), (3, .int v3), (5, .int v5)] 70 [] := by
  obtain ⟨hx, hb, hml, hown, hts, hr, hlk, hK, had, hSt⟩ := id C
  intro H locs ls hl hP hS
  unfold fX0_readWants_s70 at hf
  refine lv_iconst (v := 0) hx hb dX0_readWants_70 (by decide) ?_
  exact wX0_readWants_s71 C n K20 v1 v3 v5 0 st res hK20 hf H locs ls (lv_sub hl [0, 1, 2, 3] rfl) hP hS
def fX0_readWants_s66 (n : Nat) (K20 : Int64 → Int32 → Int32 → Int32 → St → Option (Int32 × St))  (v1 : Int64) (v3 : Int32) (v5 : Int32) (st : St) : Option (Int32 × St) := fX0_readWants_s71 n K20 v1 v3 v5 1 st
set_option maxHeartbeats 4000000 in
set_option maxRecDepth 100000 in
theorem wX0_readWants_s66 (C : Cx p s m args meth c cX0_readWants 6 wsL_law RX0 (some .boolean) D G ad) (n : Nat) (K20 : Int64 → Int32 → Int32 → Int32 → St → Option (Int32 × St))  (v1 : Int64) (v3 : Int32) (v5 : Int32)   (st : St) (res : (Int32 × St)) (hK20 : ∀ (v1 : Int64) (v3 : Int32) (v4 : Int32) (v5 : Int32) (st : St), K20 v1 v3 v4 v5 st = some res → At p l e (rmK 1) s m args below meth c D G ad (MQI D G ad below args s res) 6 st [(0, .ref (ad 43)), (1, .long v1), (3, .int v3), (4, .int v4), (5, .int v5)] 20 []) (hf : fX0_readWants_s66 n K20  v1 v3 v5 st = some res) : At p l e (rmK 1) s m args below meth c D G ad (MQI D G ad below args s res) 6 st [(0, .ref (ad 43)), (1, .long v1), (3, .int v3), (5, .int v5)] 66 [] := by
  obtain ⟨hx, hb, hml, hown, hts, hr, hlk, hK, had, hSt⟩ := id C
  intro H locs ls hl hP hS
  unfold fX0_readWants_s66 at hf
  refine lv_iconst (v := 1) hx hb dX0_readWants_66 (by decide) ?_
  refine lv_goto (tgt := 71) hx hb dX0_readWants_67 (by decide) ?_
  exact wX0_readWants_s71 C n K20 v1 v3 v5 1 st res hK20 hf H locs ls (lv_sub hl [0, 1, 2, 3] rfl) hP hS
def fX0_readWants_s54 (n : Nat) (K20 : Int64 → Int32 → Int32 → Int32 → St → Option (Int32 × St))  (v1 : Int64) (v3 : Int32) (v5 : Int32) (st : St) : Option (Int32 × St) := if inb v5 4 = true then (if 9 < (st.1 47 v5.toNatClampNeg) then fX0_readWants_s70 n K20 v1 v3 v5 st else fX0_readWants_s66 n K20 v1 v3 v5 st) else none
set_option maxHeartbeats 4000000 in
set_option maxRecDepth 100000 in
theorem wX0_readWants_s54 (C : Cx p s m args meth c cX0_readWants 6 wsL_law RX0 (some .boolean) D G ad) (n : Nat) (K20 : Int64 → Int32 → Int32 → Int32 → St → Option (Int32 × St))  (v1 : Int64) (v3 : Int32) (v5 : Int32)   (st : St) (res : (Int32 × St)) (hK20 : ∀ (v1 : Int64) (v3 : Int32) (v4 : Int32) (v5 : Int32) (st : St), K20 v1 v3 v4 v5 st = some res → At p l e (rmK 1) s m args below meth c D G ad (MQI D G ad below args s res) 6 st [(0, .ref (ad 43)), (1, .long v1), (3, .int v3), (4, .int v4), (5, .int v5)] 20 []) (hf : fX0_readWants_s54 n K20  v1 v3 v5 st = some res) : At p l e (rmK 1) s m args below meth c D G ad (MQI D G ad below args s res) 6 st [(0, .ref (ad 43)), (1, .long v1), (3, .int v3), (5, .int v5)] 54 [] := by
  obtain ⟨hx, hb, hml, hown, hts, hr, hlk, hK, had, hSt⟩ := id C
  intro H locs ls hl hP hS
  unfold fX0_readWants_s54 at hf
  refine lv_aload_n hx hb dX0_readWants_54 rfl (lv_at hl 0 rfl) ?_
  refine g_getR hx hb hts inlX0 hown hK hP 43 ct_43 rfl 1 (by decide) (hts _ wm_6_8) rfl dX0_readWants_55 ?_
  refine lv_iload hx hb dX0_readWants_58 (lv_at hl 3 rfl) ?_
  obtain ⟨g1, hf⟩ := gd hf
  refine g_iald hx hb hK hP 47 ct_47 g1 dX0_readWants_60 ?_
  refine lv_bipush (v := 9) hx hb dX0_readWants_61 (by decide) ?_
  refine lv_icmp_gt (tgt := 70) hx hb dX0_readWants_63 (by decide) (fun q => ?_) (fun q => ?_)
  · exact wX0_readWants_s70 C n K20 v1 v3 v5 st res hK20 (it hf q) H locs ls (lv_sub hl [0, 1, 2, 3] rfl) hP hS
  · exact wX0_readWants_s66 C n K20 v1 v3 v5 st res hK20 (ie hf q) H locs ls (lv_sub hl [0, 1, 2, 3] rfl) hP hS
def fX0_readWants_s49 (n : Nat) (K20 : Int64 → Int32 → Int32 → Int32 → St → Option (Int32 × St))  (v1 : Int64) (v3 : Int32) (v4 : Int32) (v5 : Int32) (st : St) : Option (Int32 × St) := if v4 = 0 then fX0_readWants_s70 n K20 v1 v3 v5 st else fX0_readWants_s54 n K20 v1 v3 v5 st
set_option maxHeartbeats 4000000 in
set_option maxRecDepth 100000 in
theorem wX0_readWants_s49 (C : Cx p s m args meth c cX0_readWants 6 wsL_law RX0 (some .boolean) D G ad) (n : Nat) (K20 : Int64 → Int32 → Int32 → Int32 → St → Option (Int32 × St))  (v1 : Int64) (v3 : Int32) (v4 : Int32) (v5 : Int32)   (st : St) (res : (Int32 × St)) (hK20 : ∀ (v1 : Int64) (v3 : Int32) (v4 : Int32) (v5 : Int32) (st : St), K20 v1 v3 v4 v5 st = some res → At p l e (rmK 1) s m args below meth c D G ad (MQI D G ad below args s res) 6 st [(0, .ref (ad 43)), (1, .long v1), (3, .int v3), (4, .int v4), (5, .int v5)] 20 []) (hf : fX0_readWants_s49 n K20  v1 v3 v4 v5 st = some res) : At p l e (rmK 1) s m args below meth c D G ad (MQI D G ad below args s res) 6 st [(0, .ref (ad 43)), (1, .long v1), (3, .int v3), (4, .int v4), (5, .int v5)] 49 [] := by
  obtain ⟨hx, hb, hml, hown, hts, hr, hlk, hK, had, hSt⟩ := id C
  intro H locs ls hl hP hS
  unfold fX0_readWants_s49 at hf
  refine lv_iload hx hb dX0_readWants_49 (lv_at hl 3 rfl) ?_
  refine lv_if_eq (tgt := 70) hx hb dX0_readWants_51 (by decide) (fun q => ?_) (fun q => ?_)
  · exact wX0_readWants_s70 C n K20 v1 v3 v5 st res hK20 (it hf q) H locs ls (lv_sub hl [0, 1, 2, 4] rfl) hP hS
  · exact wX0_readWants_s54 C n K20 v1 v3 v5 st res hK20 (ie hf q) H locs ls (lv_sub hl [0, 1, 2, 4] rfl) hP hS
def fX0_readWants_s32 (n : Nat) (K20 : Int64 → Int32 → Int32 → Int32 → St → Option (Int32 × St))  (v1 : Int64) (v3 : Int32) (v4 : Int32) (v5 : Int32) (st : St) : Option (Int32 × St) := if inb v5 4 = true then (fX0_readWants_s49 n K20 v1 v3 v4 v5 (setI st 47 v5.toNatClampNeg ((((v1.toUInt64 >>> ((4 * v5).toInt64.toUInt64 &&& Int64.toUInt64 63)).toInt64).toInt32) &&& 15))) else none
set_option maxHeartbeats 4000000 in
set_option maxRecDepth 100000 in
theorem wX0_readWants_s32 (C : Cx p s m args meth c cX0_readWants 6 wsL_law RX0 (some .boolean) D G ad) (n : Nat) (K20 : Int64 → Int32 → Int32 → Int32 → St → Option (Int32 × St))  (v1 : Int64) (v3 : Int32) (v4 : Int32) (v5 : Int32)   (st : St) (res : (Int32 × St)) (hK20 : ∀ (v1 : Int64) (v3 : Int32) (v4 : Int32) (v5 : Int32) (st : St), K20 v1 v3 v4 v5 st = some res → At p l e (rmK 1) s m args below meth c D G ad (MQI D G ad below args s res) 6 st [(0, .ref (ad 43)), (1, .long v1), (3, .int v3), (4, .int v4), (5, .int v5)] 20 []) (hf : fX0_readWants_s32 n K20  v1 v3 v4 v5 st = some res) : At p l e (rmK 1) s m args below meth c D G ad (MQI D G ad below args s res) 6 st [(0, .ref (ad 43)), (1, .long v1), (3, .int v3), (4, .int v4), (5, .int v5)] 32 [] := by
  obtain ⟨hx, hb, hml, hown, hts, hr, hlk, hK, had, hSt⟩ := id C
  intro H locs ls hl hP hS
  unfold fX0_readWants_s32 at hf
  refine lv_aload_n hx hb dX0_readWants_32 rfl (lv_at hl 0 rfl) ?_
  refine g_getR hx hb hts inlX0 hown hK hP 43 ct_43 rfl 1 (by decide) (hts _ wm_6_8) rfl dX0_readWants_33 ?_
  refine lv_iload hx hb dX0_readWants_36 (lv_at hl 4 rfl) ?_
  refine lv_lload_n hx hb dX0_readWants_38 rfl (lv_at hl 1 rfl) ?_
  refine lv_iconst (v := 4) hx hb dX0_readWants_39 (by decide) ?_
  refine lv_iload hx hb dX0_readWants_40 (lv_at hl 4 rfl) ?_
  refine lv_imul hx hb dX0_readWants_42 ?_
  refine lv_lushr hx hb dX0_readWants_43 rfl ?_
  refine lv_l2i hx hb dX0_readWants_44 rfl ?_
  refine lv_bipush (v := 15) hx hb dX0_readWants_45 (by decide) ?_
  refine lv_iand hx hb dX0_readWants_47 ?_
  obtain ⟨g1, hf⟩ := gd hf
  refine g_iast hx hb hK had hP hS 47 ct_47 g1 dX0_readWants_48 (fun H locs hP hS => ?_)
  exact wX0_readWants_s49 C n K20 v1 v3 v4 v5 (setI st 47 v5.toNatClampNeg ((((v1.toUInt64 >>> ((4 * v5).toInt64.toUInt64 &&& Int64.toUInt64 63)).toInt64).toInt32) &&& 15)) res hK20 hf H locs ls (lv_sub hl [0, 1, 2, 3, 4] rfl) hP hS
def fX0_readWants_s26 (n : Nat) (K20 : Int64 → Int32 → Int32 → Int32 → St → Option (Int32 × St))  (v1 : Int64) (v3 : Int32) (v4 : Int32) (v5 : Int32) (st : St) : Option (Int32 × St) := if 4 ≤ v5 then fX0_readWants_s87 n v4 st else fX0_readWants_s32 n K20 v1 v3 v4 v5 st
set_option maxHeartbeats 4000000 in
set_option maxRecDepth 100000 in
theorem wX0_readWants_s26 (C : Cx p s m args meth c cX0_readWants 6 wsL_law RX0 (some .boolean) D G ad) (n : Nat) (K20 : Int64 → Int32 → Int32 → Int32 → St → Option (Int32 × St))  (v1 : Int64) (v3 : Int32) (v4 : Int32) (v5 : Int32)   (st : St) (res : (Int32 × St)) (hK20 : ∀ (v1 : Int64) (v3 : Int32) (v4 : Int32) (v5 : Int32) (st : St), K20 v1 v3 v4 v5 st = some res → At p l e (rmK 1) s m args below meth c D G ad (MQI D G ad below args s res) 6 st [(0, .ref (ad 43)), (1, .long v1), (3, .int v3), (4, .int v4), (5, .int v5)] 20 []) (hf : fX0_readWants_s26 n K20  v1 v3 v4 v5 st = some res) : At p l e (rmK 1) s m args below meth c D G ad (MQI D G ad below args s res) 6 st [(0, .ref (ad 43)), (1, .long v1), (3, .int v3), (4, .int v4), (5, .int v5)] 26 [] := by
  obtain ⟨hx, hb, hml, hown, hts, hr, hlk, hK, had, hSt⟩ := id C
  intro H locs ls hl hP hS
  unfold fX0_readWants_s26 at hf
  refine lv_iload hx hb dX0_readWants_26 (lv_at hl 4 rfl) ?_
  refine lv_iconst (v := 4) hx hb dX0_readWants_28 (by decide) ?_
  refine lv_icmp_ge (tgt := 87) hx hb dX0_readWants_29 (by decide) (fun q => ?_) (fun q => ?_)
  · exact wX0_readWants_s87 C n v4 st res (it hf q) H locs ls (lv_sub hl [3] rfl) hP hS
  · exact wX0_readWants_s32 C n K20 v1 v3 v4 v5 st res hK20 (ie hf q) H locs ls (lv_sub hl [0, 1, 2, 3, 4] rfl) hP hS
def fX0_readWants_s20 (n : Nat) (K20 : Int64 → Int32 → Int32 → Int32 → St → Option (Int32 × St))  (v1 : Int64) (v3 : Int32) (v4 : Int32) (v5 : Int32) (st : St) : Option (Int32 × St) := if v3 ≤ v5 then fX0_readWants_s87 n v4 st else fX0_readWants_s26 n K20 v1 v3 v4 v5 st
set_option maxHeartbeats 4000000 in
set_option maxRecDepth 100000 in
theorem wX0_readWants_s20 (C : Cx p s m args meth c cX0_readWants 6 wsL_law RX0 (some .boolean) D G ad) (n : Nat) (K20 : Int64 → Int32 → Int32 → Int32 → St → Option (Int32 × St))  (v1 : Int64) (v3 : Int32) (v4 : Int32) (v5 : Int32)   (st : St) (res : (Int32 × St)) (hK20 : ∀ (v1 : Int64) (v3 : Int32) (v4 : Int32) (v5 : Int32) (st : St), K20 v1 v3 v4 v5 st = some res → At p l e (rmK 1) s m args below meth c D G ad (MQI D G ad below args s res) 6 st [(0, .ref (ad 43)), (1, .long v1), (3, .int v3), (4, .int v4), (5, .int v5)] 20 []) (hf : fX0_readWants_s20 n K20  v1 v3 v4 v5 st = some res) : At p l e (rmK 1) s m args below meth c D G ad (MQI D G ad below args s res) 6 st [(0, .ref (ad 43)), (1, .long v1), (3, .int v3), (4, .int v4), (5, .int v5)] 20 [] := by
  obtain ⟨hx, hb, hml, hown, hts, hr, hlk, hK, had, hSt⟩ := id C
  intro H locs ls hl hP hS
  unfold fX0_readWants_s20 at hf
  refine lv_iload hx hb dX0_readWants_20 (lv_at hl 4 rfl) ?_
  refine lv_iload_n hx hb dX0_readWants_22 rfl (lv_at hl 2 rfl) ?_
  refine lv_icmp_ge (tgt := 87) hx hb dX0_readWants_23 (by decide) (fun q => ?_) (fun q => ?_)
  · exact wX0_readWants_s87 C n v4 st res (it hf q) H locs ls (lv_sub hl [3] rfl) hP hS
  · exact wX0_readWants_s26 C n K20 v1 v3 v4 v5 st res hK20 (ie hf q) H locs ls (lv_sub hl [0, 1, 2, 3, 4] rfl) hP hS
def fX0_readWants_L20 (n : Nat)   : Nat → Int64 → Int32 → Int32 → Int32 → St → Option (Int32 × St)
  | 0, _, _, _, _, _ => none
  | k + 1, v1, v3, v4, v5, st => fX0_readWants_s20 n (fX0_readWants_L20 n k)  v1 v3 v4 v5 st
theorem wX0_readWants_L20 (C : Cx p s m args meth c cX0_readWants 6 wsL_law RX0 (some .boolean) D G ad) (n : Nat)    (res : (Int32 × St))  : ∀ (k : Nat) (v1 : Int64) (v3 : Int32) (v4 : Int32) (v5 : Int32)  (st : St), fX0_readWants_L20 n k v1 v3 v4 v5 st = some res → At p l e (rmK 1) s m args below meth c D G ad (MQI D G ad below args s res) 6 st [(0, .ref (ad 43)), (1, .long v1), (3, .int v3), (4, .int v4), (5, .int v5)] 20 [] := by
  intro k
  induction k with
  | zero => intro v1 v3 v4 v5  st h; exact absurd h (by intro q; cases q)
  | succ k ih => intro v1 v3 v4 v5  st h; exact wX0_readWants_s20 C n (fX0_readWants_L20 n k)  v1 v3 v4 v5   st res ih h
def fX0_readWants_s15 (n : Nat)   (v1 : Int64) (v3 : Int32) (k0 : Int32) (st : St) : Option (Int32 × St) := fX0_readWants_L20 n n v1 v3 k0 0 st
set_option maxHeartbeats 4000000 in
set_option maxRecDepth 100000 in
theorem wX0_readWants_s15 (C : Cx p s m args meth c cX0_readWants 6 wsL_law RX0 (some .boolean) D G ad) (n : Nat)   (v1 : Int64) (v3 : Int32) (k0 : Int32)   (st : St) (res : (Int32 × St))  (hf : fX0_readWants_s15 n   v1 v3 k0 st = some res) : At p l e (rmK 1) s m args below meth c D G ad (MQI D G ad below args s res) 6 st [(0, .ref (ad 43)), (1, .long v1), (3, .int v3)] 15 [.int k0] := by
  obtain ⟨hx, hb, hml, hown, hts, hr, hlk, hK, had, hSt⟩ := id C
  intro H locs ls hl hP hS
  unfold fX0_readWants_s15 at hf
  refine lv_istore (lv' := [(4, .int k0), (0, .ref (ad 43)), (1, .long v1), (3, .int v3)]) hx hb dX0_readWants_15 hl (by decide) rfl (fun ls hl => ?_)
  refine lv_iconst (v := 0) hx hb dX0_readWants_17 (by decide) ?_
  refine lv_istore (lv' := [(5, .int 0), (4, .int k0), (0, .ref (ad 43)), (1, .long v1), (3, .int v3)]) hx hb dX0_readWants_18 hl (by decide) rfl (fun ls hl => ?_)
  exact wX0_readWants_L20 C n res n v1 v3 k0 0 st hf H locs ls (lv_sub hl [2, 3, 4, 1, 0] rfl) hP hS
def fX0_readWants_s8 (n : Nat)   (v1 : Int64) (v3 : Int32) (st : St) : Option (Int32 × St) := (fX10_endsBelow n v1 (4 * v3) st).bind (fun q => fX0_readWants_s15 n v1 v3 q.1 q.2)
set_option maxHeartbeats 4000000 in
set_option maxRecDepth 100000 in
theorem wX0_readWants_s8 (C : Cx p s m args meth c cX0_readWants 6 wsL_law RX0 (some .boolean) D G ad) (n : Nat)   (v1 : Int64) (v3 : Int32)   (st : St) (res : (Int32 × St))  (hf : fX0_readWants_s8 n   v1 v3 st = some res) : At p l e (rmK 1) s m args below meth c D G ad (MQI D G ad below args s res) 6 st [(0, .ref (ad 43)), (1, .long v1), (3, .int v3)] 8 [] := by
  obtain ⟨hx, hb, hml, hown, hts, hr, hlk, hK, had, hSt⟩ := id C
  intro H locs ls hl hP hS
  unfold fX0_readWants_s8 at hf
  refine lv_lload_n hx hb dX0_readWants_8 rfl (lv_at hl 1 rfl) ?_
  refine lv_iconst (v := 4) hx hb dX0_readWants_9 (by decide) ?_
  refine lv_iload_n hx hb dX0_readWants_10 rfl (lv_at hl 2 rfl) ?_
  refine lv_imul hx hb dX0_readWants_11 ?_
  obtain ⟨q, hq, hf⟩ := bd hf
  refine gcN_i (k := 0) (As := [.long v1, .int (4 * v3)]) (rest := []) hx hb hml hown hts hK hSt hP hS hl.1 (goodU wm_39_9) wm_39_8 wm_1_2 hK.2.1 okX10_endsBelow (Nat.le_of_ble_eq_true rfl) (Nat.le_of_ble_eq_true rfl) rfl rfl (Nat.le_of_ble_eq_true rfl) dX0_readWants_12 (kX10_endsBelow l D G ad had n  v1 (4 * v3) st q hq) (fun H locs hP hS => ?_)
  exact wX0_readWants_s15 C n v1 v3 q.1 q.2 res hf H locs ls (lv_sub hl [0, 1, 2] rfl) hP hS
def fX0_readWants_s0 (n : Nat)   (v1 : Int64) (v3 : Int32) (st : St) : Option (Int32 × St) := fX0_readWants_s8 n v1 v3 (setI st 44 2 0)
set_option maxHeartbeats 4000000 in
set_option maxRecDepth 100000 in
theorem wX0_readWants_s0 (C : Cx p s m args meth c cX0_readWants 6 wsL_law RX0 (some .boolean) D G ad) (n : Nat)   (v1 : Int64) (v3 : Int32)   (st : St) (res : (Int32 × St))  (hf : fX0_readWants_s0 n   v1 v3 st = some res) : At p l e (rmK 1) s m args below meth c D G ad (MQI D G ad below args s res) 6 st [(0, .ref (ad 43)), (1, .long v1), (3, .int v3)] 0 [] := by
  obtain ⟨hx, hb, hml, hown, hts, hr, hlk, hK, had, hSt⟩ := id C
  intro H locs ls hl hP hS
  unfold fX0_readWants_s0 at hf
  refine lv_aload_n hx hb dX0_readWants_0 rfl (lv_at hl 0 rfl) ?_
  refine g_getR hx hb hts inlX0 hown hK hP 43 ct_43 rfl 0 (by decide) (hts _ wm_6_7) rfl dX0_readWants_1 ?_
  refine lv_iconst (v := 0) hx hb dX0_readWants_4 (by decide) ?_
  refine g_putI hx hb hts inlX8 tyX8_ok nmX8 hown hK had hP hS 44 ct_44 rfl 2 (by decide) (hts _ wm_47_12) rfl rfl rfl rfl rfl dX0_readWants_5 (fun H locs hP hS => ?_)
  exact wX0_readWants_s8 C n v1 v3 (setI st 44 2 0) res hf H locs ls (lv_sub hl [0, 1, 2] rfl) hP hS
def fX0_readWants (n : Nat)  (a1 : Int64) (a3 : Int32) (st : St) : Option (Int32 × St) := fX0_readWants_s0 n a1 a3 st
theorem okX0_readWants : okY yX0_readWants RX0 2 := by unfold okY; decide +kernel
end
set_option maxRecDepth 100000 in
theorem kX0_readWants (l : Launch) (D : va_G) (G : G3) (ad : Nat → Nat) (had : Adr ad) (n : Nat)   (a1 : Int64) (a3 : Int32) (st : St) (res : (Int32 × St)) (hf : fX0_readWants n  a1 a3 st = some res) {sz : Nat} : CtI l yX0_readWants (wsU yX0_readWants cX0_readWants 6 (some .boolean)) (rmK 1) D G ad sz [.ref (ad 43), .long a1, .int a3] st res := by
  refine Met.ofW (cc := cX0_readWants) (maxL := 6) (ret := (some .boolean)) (by decide) rfl ?_
  intro p e s m args below meth c s₁ B hml hv
  obtain ⟨rfl, hsz, hP, hK, hSt⟩ := hv
  have hts := atoms_spec (ws := wsU yX0_readWants cX0_readWants 6 (some .boolean)) B.pre
  have C : Cx p s m _ meth c cX0_readWants 6 wsL_law RX0 (some .boolean) D G ad := ⟨B.exec, B.bytes, hml, findClass_of_methodNamed B.named, fun w h => hts w (List.mem_cons_of_mem _ h), B.returns, B.notSynchronized, hK, had, hSt⟩
  subst hsz
  have hl := lv_entry ([.ref (ad 43), .long a1, .int a3]) (n := 6) (Nat.le_of_ble_eq_true rfl)
  rw [lg_entry_eq]
  generalize (lg_sl ([.ref (ad 43), .long a1, .int a3]) ++ List.replicate (6 - (lg_sl ([.ref (ad 43), .long a1, .int a3])).length) Slot.unset).toArray = ls at hl ⊢
  exact wX0_readWants_s0 C n  a1 a3   st res hf s.heap [] ls (lv_sub hl [0, 1, 2] rfl) hP va_S.rf
section
variable {p : Program} {l : Launch} {e : Env} {s : State} {m : MethodId} {args : Array Value} {below : List Frame} {meth : Method} {c : Code} {D : va_G} {G : G3} {ad : Nat → Nat}
def fX0_tellClaims_s39 (n : Nat)   (v1 : Int64) (st : St) : Option (Int64 × St) := some (v1, st)
set_option maxHeartbeats 4000000 in
set_option maxRecDepth 100000 in
theorem wX0_tellClaims_s39 (C : Cx p s m args meth c cX0_tellClaims 4 wsL_law RX0 (some .long) D G ad) (n : Nat)   (v1 : Int64)   (st : St) (res : (Int64 × St))  (hf : fX0_tellClaims_s39 n   v1 st = some res) : At p l e (rmK 0) s m args below meth c D G ad (MQJ D G ad below args s res) 4 st [(1, .long v1)] 39 [] := by
  obtain ⟨hx, hb, hml, hown, hts, hr, hlk, hK, had, hSt⟩ := id C
  intro H locs ls hl hP hS
  unfold fX0_tellClaims_s39 at hf
  refine lv_lload_n hx hb dX0_tellClaims_39 rfl (lv_at hl 0 rfl) ?_
  exact g_lret hx hb hr hlk hP hS dX0_tellClaims_40 hf
def fX0_tellClaims_s16 (n : Nat) (K12 : Int64 → Int32 → St → Option (Int64 × St))  (v1 : Int64) (v3 : Int32) (st : St) : Option (Int64 × St) := if inb v3 8 = true then (K12 ((v1 * 16) + ((st.1 45 v3.toNatClampNeg).toInt64)) (v3 + (-1)) st) else none
set_option maxHeartbeats 4000000 in
set_option maxRecDepth 100000 in
theorem wX0_tellClaims_s16 (C : Cx p s m args meth c cX0_tellClaims 4 wsL_law RX0 (some .long) D G ad) (n : Nat) (K12 : Int64 → Int32 → St → Option (Int64 × St))  (v1 : Int64) (v3 : Int32)   (st : St) (res : (Int64 × St)) (hK12 : ∀ (v1 : Int64) (v3 : Int32) (st : St), K12 v1 v3 st = some res → At p l e (rmK 0) s m args below meth c D G ad (MQJ D G ad below args s res) 4 st [(0, .ref (ad 43)), (1, .long v1), (3, .int v3)] 12 []) (hf : fX0_tellClaims_s16 n K12  v1 v3 st = some res) : At p l e (rmK 0) s m args below meth c D G ad (MQJ D G ad below args s res) 4 st [(0, .ref (ad 43)), (1, .long v1), (3, .int v3)] 16 [] := by
  obtain ⟨hx, hb, hml, hown, hts, hr, hlk, hK, had, hSt⟩ := id C
  intro H locs ls hl hP hS
  unfold fX0_tellClaims_s16 at hf
  refine lv_lload_n hx hb dX0_tellClaims_16 rfl (lv_at hl 1 rfl) ?_
  refine lv_ldc2 hx hb hown (hts _ wm_50_5) dX0_tellClaims_17 ?_
  refine lv_lmul hx hb dX0_tellClaims_20 ?_
  refine lv_aload_n hx hb dX0_tellClaims_21 rfl (lv_at hl 0 rfl) ?_
  refine g_getR hx hb hts inlX0 hown hK hP 43 ct_43 rfl 0 (by decide) (hts _ wm_6_7) rfl dX0_tellClaims_22 ?_
  refine g_getR hx hb hts inlX8 hown hK hP 44 ct_44 rfl 0 (by decide) (hts _ wm_49_0) rfl dX0_tellClaims_25 ?_
  refine lv_iload_n hx hb dX0_tellClaims_28 rfl (lv_at hl 2 rfl) ?_
  obtain ⟨g1, hf⟩ := gd hf
  refine g_iald hx hb hK hP 45 ct_45 g1 dX0_tellClaims_29 ?_
  refine lv_i2l hx hb dX0_tellClaims_30 rfl ?_
  refine lv_ladd hx hb dX0_tellClaims_31 ?_
  refine lv_lstore_n (lv' := [(1, .long ((v1 * 16) + ((st.1 45 v3.toNatClampNeg).toInt64))), (0, .ref (ad 43)), (3, .int v3)]) hx hb dX0_tellClaims_32 rfl hl (by decide) rfl (fun ls hl => ?_)
  refine lv_iinc (v := v3 + (-1)) (lv' := [(3, .int (v3 + (-1))), (1, .long ((v1 * 16) + ((st.1 45 v3.toNatClampNeg).toInt64))), (0, .ref (ad 43))]) hx hb dX0_tellClaims_33 hl (k := 2) rfl rfl (by decide) rfl (fun ls hl => ?_)
  refine lv_goto (tgt := 12) hx hb dX0_tellClaims_36 (by decide) ?_
  exact hK12 ((v1 * 16) + ((st.1 45 v3.toNatClampNeg).toInt64)) (v3 + (-1))  st hf H locs ls (lv_sub hl [2, 1, 0] rfl) hP hS
def fX0_tellClaims_s12 (n : Nat) (K12 : Int64 → Int32 → St → Option (Int64 × St))  (v1 : Int64) (v3 : Int32) (st : St) : Option (Int64 × St) := if v3 < 0 then fX0_tellClaims_s39 n v1 st else fX0_tellClaims_s16 n K12 v1 v3 st
set_option maxHeartbeats 4000000 in
set_option maxRecDepth 100000 in
theorem wX0_tellClaims_s12 (C : Cx p s m args meth c cX0_tellClaims 4 wsL_law RX0 (some .long) D G ad) (n : Nat) (K12 : Int64 → Int32 → St → Option (Int64 × St))  (v1 : Int64) (v3 : Int32)   (st : St) (res : (Int64 × St)) (hK12 : ∀ (v1 : Int64) (v3 : Int32) (st : St), K12 v1 v3 st = some res → At p l e (rmK 0) s m args below meth c D G ad (MQJ D G ad below args s res) 4 st [(0, .ref (ad 43)), (1, .long v1), (3, .int v3)] 12 []) (hf : fX0_tellClaims_s12 n K12  v1 v3 st = some res) : At p l e (rmK 0) s m args below meth c D G ad (MQJ D G ad below args s res) 4 st [(0, .ref (ad 43)), (1, .long v1), (3, .int v3)] 12 [] := by
  obtain ⟨hx, hb, hml, hown, hts, hr, hlk, hK, had, hSt⟩ := id C
  intro H locs ls hl hP hS
  unfold fX0_tellClaims_s12 at hf
  refine lv_iload_n hx hb dX0_tellClaims_12 rfl (lv_at hl 2 rfl) ?_
  refine lv_if_lt (tgt := 39) hx hb dX0_tellClaims_13 (by decide) (fun q => ?_) (fun q => ?_)
  · exact wX0_tellClaims_s39 C n v1 st res (it hf q) H locs ls (lv_sub hl [1] rfl) hP hS
  · exact wX0_tellClaims_s16 C n K12 v1 v3 st res hK12 (ie hf q) H locs ls (lv_sub hl [0, 1, 2] rfl) hP hS
def fX0_tellClaims_L12 (n : Nat)   : Nat → Int64 → Int32 → St → Option (Int64 × St)
  | 0, _, _, _ => none
  | k + 1, v1, v3, st => fX0_tellClaims_s12 n (fX0_tellClaims_L12 n k)  v1 v3 st
theorem wX0_tellClaims_L12 (C : Cx p s m args meth c cX0_tellClaims 4 wsL_law RX0 (some .long) D G ad) (n : Nat)    (res : (Int64 × St))  : ∀ (k : Nat) (v1 : Int64) (v3 : Int32)  (st : St), fX0_tellClaims_L12 n k v1 v3 st = some res → At p l e (rmK 0) s m args below meth c D G ad (MQJ D G ad below args s res) 4 st [(0, .ref (ad 43)), (1, .long v1), (3, .int v3)] 12 [] := by
  intro k
  induction k with
  | zero => intro v1 v3  st h; exact absurd h (by intro q; cases q)
  | succ k ih => intro v1 v3  st h; exact wX0_tellClaims_s12 C n (fX0_tellClaims_L12 n k)  v1 v3   st res ih h
def fX0_tellClaims_s0 (n : Nat)    (st : St) : Option (Int64 × St) := fX0_tellClaims_L12 n n 0 ((st.1 44 2) - 1) st
set_option maxHeartbeats 4000000 in
set_option maxRecDepth 100000 in
theorem wX0_tellClaims_s0 (C : Cx p s m args meth c cX0_tellClaims 4 wsL_law RX0 (some .long) D G ad) (n : Nat)      (st : St) (res : (Int64 × St))  (hf : fX0_tellClaims_s0 n    st = some res) : At p l e (rmK 0) s m args below meth c D G ad (MQJ D G ad below args s res) 4 st [(0, .ref (ad 43))] 0 [] := by
  obtain ⟨hx, hb, hml, hown, hts, hr, hlk, hK, had, hSt⟩ := id C
  intro H locs ls hl hP hS
  unfold fX0_tellClaims_s0 at hf
  refine lv_lconst (v := 0) hx hb dX0_tellClaims_0 (by decide) ?_
  refine lv_lstore_n (lv' := [(1, .long 0), (0, .ref (ad 43))]) hx hb dX0_tellClaims_1 rfl hl (by decide) rfl (fun ls hl => ?_)
  refine lv_aload_n hx hb dX0_tellClaims_2 rfl (lv_at hl 1 rfl) ?_
  refine g_getR hx hb hts inlX0 hown hK hP 43 ct_43 rfl 0 (by decide) (hts _ wm_6_7) rfl dX0_tellClaims_3 ?_
  refine g_getI hx hb hts inlX8 hown hK hP 44 ct_44 rfl 2 (by decide) (hts _ wm_47_12) rfl dX0_tellClaims_6 ?_
  refine lv_iconst (v := 1) hx hb dX0_tellClaims_9 (by decide) ?_
  refine lv_isub hx hb dX0_tellClaims_10 ?_
  refine lv_istore_n (lv' := [(3, .int ((st.1 44 2) - 1)), (1, .long 0), (0, .ref (ad 43))]) hx hb dX0_tellClaims_11 rfl hl (by decide) rfl (fun ls hl => ?_)
  exact wX0_tellClaims_L12 C n res n 0 ((st.1 44 2) - 1) st hf H locs ls (lv_sub hl [2, 1, 0] rfl) hP hS
def fX0_tellClaims (n : Nat)   (st : St) : Option (Int64 × St) := fX0_tellClaims_s0 n st
theorem okX0_tellClaims : okY yX0_tellClaims RX0 0 := by unfold okY; decide +kernel
end
set_option maxRecDepth 100000 in
theorem kX0_tellClaims (l : Launch) (D : va_G) (G : G3) (ad : Nat → Nat) (had : Adr ad) (n : Nat)    (st : St) (res : (Int64 × St)) (hf : fX0_tellClaims n   st = some res) {sz : Nat} : CtJ l yX0_tellClaims (wsU yX0_tellClaims cX0_tellClaims 4 (some .long)) (rmK 0) D G ad sz [.ref (ad 43)] st res := by
  refine Met.ofW (cc := cX0_tellClaims) (maxL := 4) (ret := (some .long)) (by decide) rfl ?_
  intro p e s m args below meth c s₁ B hml hv
  obtain ⟨rfl, hsz, hP, hK, hSt⟩ := hv
  have hts := atoms_spec (ws := wsU yX0_tellClaims cX0_tellClaims 4 (some .long)) B.pre
  have C : Cx p s m _ meth c cX0_tellClaims 4 wsL_law RX0 (some .long) D G ad := ⟨B.exec, B.bytes, hml, findClass_of_methodNamed B.named, fun w h => hts w (List.mem_cons_of_mem _ h), B.returns, B.notSynchronized, hK, had, hSt⟩
  subst hsz
  have hl := lv_entry ([.ref (ad 43)]) (n := 4) (Nat.le_of_ble_eq_true rfl)
  rw [lg_entry_eq]
  generalize (lg_sl ([.ref (ad 43)]) ++ List.replicate (4 - (lg_sl ([.ref (ad 43)])).length) Slot.unset).toArray = ls at hl ⊢
  exact wX0_tellClaims_s0 C n     st res hf s.heap [] ls (lv_sub hl [0] rfl) hP va_S.rf
section
variable {p : Program} {l : Launch} {e : Env} {s : State} {m : MethodId} {args : Array Value} {below : List Frame} {meth : Method} {c : Code} {D : va_G} {G : G3} {ad : Nat → Nat}
def fX0_gotBy_s37 (n : Nat)   (k0 : Int32) (st : St) : Option (Int32 × St) := some (k0, st)
set_option maxHeartbeats 4000000 in
set_option maxRecDepth 100000 in
theorem wX0_gotBy_s37 (C : Cx p s m args meth c cX0_gotBy 4 wsL_law RX0 (some .int) D G ad) (n : Nat)   (k0 : Int32)   (st : St) (res : (Int32 × St))  (hf : fX0_gotBy_s37 n   k0 st = some res) : At p l e (rmK 3) s m args below meth c D G ad (MQI D G ad below args s res) 4 st [] 37 [.int k0] := by
  obtain ⟨hx, hb, hml, hown, hts, hr, hlk, hK, had, hSt⟩ := id C
  intro H locs ls hl hP hS
  unfold fX0_gotBy_s37 at hf
  exact g_iret hx hb hr hlk hP hS dX0_gotBy_37 hf
def fX0_gotBy_s36 (n : Nat)    (st : St) : Option (Int32 × St) := fX0_gotBy_s37 n 0 st
set_option maxHeartbeats 4000000 in
set_option maxRecDepth 100000 in
theorem wX0_gotBy_s36 (C : Cx p s m args meth c cX0_gotBy 4 wsL_law RX0 (some .int) D G ad) (n : Nat)      (st : St) (res : (Int32 × St))  (hf : fX0_gotBy_s36 n    st = some res) : At p l e (rmK 3) s m args below meth c D G ad (MQI D G ad below args s res) 4 st [] 36 [] := by
  obtain ⟨hx, hb, hml, hown, hts, hr, hlk, hK, had, hSt⟩ := id C
  intro H locs ls hl hP hS
  unfold fX0_gotBy_s36 at hf
  refine lv_iconst (v := 0) hx hb dX0_gotBy_36 (by decide) ?_
  exact wX0_gotBy_s37 C n 0 st res hf H locs ls (lv_sub hl [] rfl) hP hS
def fX0_gotBy_s24 (n : Nat)   (v1 : Int32) (st : St) : Option (Int32 × St) := if inb v1 8 = true then (fX0_gotBy_s37 n (st.1 46 v1.toNatClampNeg) st) else none
set_option maxHeartbeats 4000000 in
set_option maxRecDepth 100000 in
theorem wX0_gotBy_s24 (C : Cx p s m args meth c cX0_gotBy 4 wsL_law RX0 (some .int) D G ad) (n : Nat)   (v1 : Int32)   (st : St) (res : (Int32 × St))  (hf : fX0_gotBy_s24 n   v1 st = some res) : At p l e (rmK 3) s m args below meth c D G ad (MQI D G ad below args s res) 4 st [(0, .ref (ad 43)), (1, .int v1)] 24 [] := by
  obtain ⟨hx, hb, hml, hown, hts, hr, hlk, hK, had, hSt⟩ := id C
  intro H locs ls hl hP hS
  unfold fX0_gotBy_s24 at hf
  refine lv_aload_n hx hb dX0_gotBy_24 rfl (lv_at hl 0 rfl) ?_
  refine g_getR hx hb hts inlX0 hown hK hP 43 ct_43 rfl 0 (by decide) (hts _ wm_6_7) rfl dX0_gotBy_25 ?_
  refine g_getR hx hb hts inlX8 hown hK hP 44 ct_44 rfl 1 (by decide) (hts _ wm_47_18) rfl dX0_gotBy_28 ?_
  refine lv_iload_n hx hb dX0_gotBy_31 rfl (lv_at hl 1 rfl) ?_
  obtain ⟨g1, hf⟩ := gd hf
  refine g_iald hx hb hK hP 46 ct_46 g1 dX0_gotBy_32 ?_
  refine lv_goto (tgt := 37) hx hb dX0_gotBy_33 (by decide) ?_
  exact wX0_gotBy_s37 C n (st.1 46 v1.toNatClampNeg) st res hf H locs ls (lv_sub hl [] rfl) hP hS
def fX0_gotBy_s13 (n : Nat)   (v1 : Int32) (st : St) : Option (Int32 × St) := if (st.1 44 2) ≤ v1 then fX0_gotBy_s36 n st else fX0_gotBy_s24 n v1 st
set_option maxHeartbeats 4000000 in
set_option maxRecDepth 100000 in
theorem wX0_gotBy_s13 (C : Cx p s m args meth c cX0_gotBy 4 wsL_law RX0 (some .int) D G ad) (n : Nat)   (v1 : Int32)   (st : St) (res : (Int32 × St))  (hf : fX0_gotBy_s13 n   v1 st = some res) : At p l e (rmK 3) s m args below meth c D G ad (MQI D G ad below args s res) 4 st [(0, .ref (ad 43)), (1, .int v1)] 13 [] := by
  obtain ⟨hx, hb, hml, hown, hts, hr, hlk, hK, had, hSt⟩ := id C
  intro H locs ls hl hP hS
  unfold fX0_gotBy_s13 at hf
  refine lv_iload_n hx hb dX0_gotBy_13 rfl (lv_at hl 1 rfl) ?_
  refine lv_aload_n hx hb dX0_gotBy_14 rfl (lv_at hl 0 rfl) ?_
  refine g_getR hx hb hts inlX0 hown hK hP 43 ct_43 rfl 0 (by decide) (hts _ wm_6_7) rfl dX0_gotBy_15 ?_
  refine g_getI hx hb hts inlX8 hown hK hP 44 ct_44 rfl 2 (by decide) (hts _ wm_47_12) rfl dX0_gotBy_18 ?_
  refine lv_icmp_ge (tgt := 36) hx hb dX0_gotBy_21 (by decide) (fun q => ?_) (fun q => ?_)
  · exact wX0_gotBy_s36 C n st res (it hf q) H locs ls (lv_sub hl [] rfl) hP hS
  · exact wX0_gotBy_s24 C n v1 st res (ie hf q) H locs ls (lv_sub hl [0, 1] rfl) hP hS
def fX0_gotBy_s9 (n : Nat)   (v1 : Int32) (st : St) : Option (Int32 × St) := if v1 < 0 then fX0_gotBy_s36 n st else fX0_gotBy_s13 n v1 st
set_option maxHeartbeats 4000000 in
set_option maxRecDepth 100000 in
theorem wX0_gotBy_s9 (C : Cx p s m args meth c cX0_gotBy 4 wsL_law RX0 (some .int) D G ad) (n : Nat)   (v1 : Int32)   (st : St) (res : (Int32 × St))  (hf : fX0_gotBy_s9 n   v1 st = some res) : At p l e (rmK 3) s m args below meth c D G ad (MQI D G ad below args s res) 4 st [(0, .ref (ad 43)), (1, .int v1)] 9 [] := by
  obtain ⟨hx, hb, hml, hown, hts, hr, hlk, hK, had, hSt⟩ := id C
  intro H locs ls hl hP hS
  unfold fX0_gotBy_s9 at hf
  refine lv_iload_n hx hb dX0_gotBy_9 rfl (lv_at hl 1 rfl) ?_
  refine lv_if_lt (tgt := 36) hx hb dX0_gotBy_10 (by decide) (fun q => ?_) (fun q => ?_)
  · exact wX0_gotBy_s36 C n st res (it hf q) H locs ls (lv_sub hl [] rfl) hP hS
  · exact wX0_gotBy_s13 C n v1 st res (ie hf q) H locs ls (lv_sub hl [0, 1] rfl) hP hS
def fX0_gotBy_s0 (n : Nat)   (v1 : Int32) (v2 : Int32) (v3 : Int32) (st : St) : Option (Int32 × St) := (fX8_split n 44 v2 v3 st).bind (fun q => fX0_gotBy_s9 n v1 q.2)
set_option maxHeartbeats 4000000 in
set_option maxRecDepth 100000 in
theorem wX0_gotBy_s0 (C : Cx p s m args meth c cX0_gotBy 4 wsL_law RX0 (some .int) D G ad) (n : Nat)   (v1 : Int32) (v2 : Int32) (v3 : Int32)   (st : St) (res : (Int32 × St))  (hf : fX0_gotBy_s0 n   v1 v2 v3 st = some res) : At p l e (rmK 3) s m args below meth c D G ad (MQI D G ad below args s res) 4 st [(0, .ref (ad 43)), (1, .int v1), (2, .int v2), (3, .int v3)] 0 [] := by
  obtain ⟨hx, hb, hml, hown, hts, hr, hlk, hK, had, hSt⟩ := id C
  intro H locs ls hl hP hS
  unfold fX0_gotBy_s0 at hf
  refine lv_aload_n hx hb dX0_gotBy_0 rfl (lv_at hl 0 rfl) ?_
  refine g_getR hx hb hts inlX0 hown hK hP 43 ct_43 rfl 0 (by decide) (hts _ wm_6_7) rfl dX0_gotBy_1 ?_
  refine lv_iload_n hx hb dX0_gotBy_4 rfl (lv_at hl 2 rfl) ?_
  refine lv_iload_n hx hb dX0_gotBy_5 rfl (lv_at hl 3 rfl) ?_
  obtain ⟨q, hq, hf⟩ := bd hf
  refine gcV_v (k := 2) (o := 44) (As := [.int v2, .int v3]) (rest := []) hx hb hml hown hts hK hSt hP hS hl.1 (goodV wm_47_19 wm_19_6 wm_19_7 wm_2_3 wm_19_8) okX8_split ct_44 rfl rfl (Nat.le_of_ble_eq_true rfl) (Nat.le_of_ble_eq_true rfl) rfl rfl (Nat.le_of_ble_eq_true rfl) dX0_gotBy_6 (kX8_split l D G ad had n 44 isSh_lit_44 v2 v3 st q hq) (fun H locs hP hS => ?_)
  exact wX0_gotBy_s9 C n v1 q.2 res hf H locs ls (lv_sub hl [0, 1] rfl) hP hS
def fX0_gotBy (n : Nat)  (a1 : Int32) (a2 : Int32) (a3 : Int32) (st : St) : Option (Int32 × St) := fX0_gotBy_s0 n a1 a2 a3 st
theorem okX0_gotBy : okY yX0_gotBy RX0 3 := by unfold okY; decide +kernel
end
set_option maxRecDepth 100000 in
theorem kX0_gotBy (l : Launch) (D : va_G) (G : G3) (ad : Nat → Nat) (had : Adr ad) (n : Nat)   (a1 : Int32) (a2 : Int32) (a3 : Int32) (st : St) (res : (Int32 × St)) (hf : fX0_gotBy n  a1 a2 a3 st = some res) {sz : Nat} : CtI l yX0_gotBy (wsU yX0_gotBy cX0_gotBy 4 (some .int)) (rmK 3) D G ad sz [.ref (ad 43), .int a1, .int a2, .int a3] st res := by
  refine Met.ofW (cc := cX0_gotBy) (maxL := 4) (ret := (some .int)) (by decide) rfl ?_
  intro p e s m args below meth c s₁ B hml hv
  obtain ⟨rfl, hsz, hP, hK, hSt⟩ := hv
  have hts := atoms_spec (ws := wsU yX0_gotBy cX0_gotBy 4 (some .int)) B.pre
  have C : Cx p s m _ meth c cX0_gotBy 4 wsL_law RX0 (some .int) D G ad := ⟨B.exec, B.bytes, hml, findClass_of_methodNamed B.named, fun w h => hts w (List.mem_cons_of_mem _ h), B.returns, B.notSynchronized, hK, had, hSt⟩
  subst hsz
  have hl := lv_entry ([.ref (ad 43), .int a1, .int a2, .int a3]) (n := 4) (Nat.le_of_ble_eq_true rfl)
  rw [lg_entry_eq]
  generalize (lg_sl ([.ref (ad 43), .int a1, .int a2, .int a3]) ++ List.replicate (4 - (lg_sl ([.ref (ad 43), .int a1, .int a2, .int a3])).length) Slot.unset).toArray = ls at hl ⊢
  exact wX0_gotBy_s0 C n  a1 a2 a3   st res hf s.heap [] ls (lv_sub hl [0, 1, 2, 3] rfl) hP va_S.rf
section
variable {p : Program} {l : Launch} {e : Env} {s : State} {m : MethodId} {args : Array Value} {below : List Frame} {meth : Method} {c : Code} {D : va_G} {G : G3} {ad : Nat → Nat}
def fX0_distance_s9 (n : Nat)   (v1 : Int32) (st : St) : Option (Int32 × St) := if inb v1 8 = true then (if inb v1 4 = true then (some (if 0 ≤ ((st.1 46 v1.toNatClampNeg) - (st.1 47 v1.toNatClampNeg)) then ((st.1 46 v1.toNatClampNeg) - (st.1 47 v1.toNatClampNeg)) else 0 - ((st.1 46 v1.toNatClampNeg) - (st.1 47 v1.toNatClampNeg)), st)) else none) else none
set_option maxHeartbeats 4000000 in
set_option maxRecDepth 100000 in
theorem wX0_distance_s9 (C : Cx p s m args meth c cX0_distance 4 wsL_law RX0 (some .int) D G ad) (n : Nat)   (v1 : Int32)   (st : St) (res : (Int32 × St))  (hf : fX0_distance_s9 n   v1 st = some res) : At p l e (rmK 3) s m args below meth c D G ad (MQI D G ad below args s res) 4 st [(0, .ref (ad 43)), (1, .int v1)] 9 [] := by
  obtain ⟨hx, hb, hml, hown, hts, hr, hlk, hK, had, hSt⟩ := id C
  intro H locs ls hl hP hS
  unfold fX0_distance_s9 at hf
  refine lv_aload_n hx hb dX0_distance_9 rfl (lv_at hl 0 rfl) ?_
  refine g_getR hx hb hts inlX0 hown hK hP 43 ct_43 rfl 0 (by decide) (hts _ wm_6_7) rfl dX0_distance_10 ?_
  refine g_getR hx hb hts inlX8 hown hK hP 44 ct_44 rfl 1 (by decide) (hts _ wm_47_18) rfl dX0_distance_13 ?_
  refine lv_iload_n hx hb dX0_distance_16 rfl (lv_at hl 1 rfl) ?_
  obtain ⟨g1, hf⟩ := gd hf
  refine g_iald hx hb hK hP 46 ct_46 g1 dX0_distance_17 ?_
  refine lv_aload_n hx hb dX0_distance_18 rfl (lv_at hl 0 rfl) ?_
  refine g_getR hx hb hts inlX0 hown hK hP 43 ct_43 rfl 1 (by decide) (hts _ wm_6_8) rfl dX0_distance_19 ?_
  refine lv_iload_n hx hb dX0_distance_22 rfl (lv_at hl 1 rfl) ?_
  obtain ⟨g2, hf⟩ := gd hf
  refine g_iald hx hb hK hP 47 ct_47 g2 dX0_distance_23 ?_
  refine lv_isub hx hb dX0_distance_24 ?_
  refine va_mabs hx hb (hml.trans hl.1.symm) hown (hts _ wm_49_5) (hts _ wm_49_6) (hts _ wm_18_20) (hts _ wm_49_7) (Nat.le_of_ble_eq_true rfl) (Nat.le_of_ble_eq_true rfl) (Nat.zero_le _) (Nat.zero_le _) dX0_distance_25 ?_
  exact g_iret hx hb hr hlk hP hS dX0_distance_28 hf
def fX0_distance_s0 (n : Nat)   (v1 : Int32) (v2 : Int32) (v3 : Int32) (st : St) : Option (Int32 × St) := (fX8_split n 44 v2 v3 st).bind (fun q => fX0_distance_s9 n v1 q.2)
set_option maxHeartbeats 4000000 in
set_option maxRecDepth 100000 in
theorem wX0_distance_s0 (C : Cx p s m args meth c cX0_distance 4 wsL_law RX0 (some .int) D G ad) (n : Nat)   (v1 : Int32) (v2 : Int32) (v3 : Int32)   (st : St) (res : (Int32 × St))  (hf : fX0_distance_s0 n   v1 v2 v3 st = some res) : At p l e (rmK 3) s m args below meth c D G ad (MQI D G ad below args s res) 4 st [(0, .ref (ad 43)), (1, .int v1), (2, .int v2), (3, .int v3)] 0 [] := by
  obtain ⟨hx, hb, hml, hown, hts, hr, hlk, hK, had, hSt⟩ := id C
  intro H locs ls hl hP hS
  unfold fX0_distance_s0 at hf
  refine lv_aload_n hx hb dX0_distance_0 rfl (lv_at hl 0 rfl) ?_
  refine g_getR hx hb hts inlX0 hown hK hP 43 ct_43 rfl 0 (by decide) (hts _ wm_6_7) rfl dX0_distance_1 ?_
  refine lv_iload_n hx hb dX0_distance_4 rfl (lv_at hl 2 rfl) ?_
  refine lv_iload_n hx hb dX0_distance_5 rfl (lv_at hl 3 rfl) ?_
  obtain ⟨q, hq, hf⟩ := bd hf
  refine gcV_v (k := 2) (o := 44) (As := [.int v2, .int v3]) (rest := []) hx hb hml hown hts hK hSt hP hS hl.1 (goodV wm_47_19 wm_19_6 wm_19_7 wm_2_3 wm_19_8) okX8_split ct_44 rfl rfl (Nat.le_of_ble_eq_true rfl) (Nat.le_of_ble_eq_true rfl) rfl rfl (Nat.le_of_ble_eq_true rfl) dX0_distance_6 (kX8_split l D G ad had n 44 isSh_lit_44 v2 v3 st q hq) (fun H locs hP hS => ?_)
  exact wX0_distance_s9 C n v1 q.2 res hf H locs ls (lv_sub hl [0, 1] rfl) hP hS
def fX0_distance (n : Nat)  (a1 : Int32) (a2 : Int32) (a3 : Int32) (st : St) : Option (Int32 × St) := fX0_distance_s0 n a1 a2 a3 st
theorem okX0_distance : okY yX0_distance RX0 3 := by unfold okY; decide +kernel
end
set_option maxRecDepth 100000 in
theorem kX0_distance (l : Launch) (D : va_G) (G : G3) (ad : Nat → Nat) (had : Adr ad) (n : Nat)   (a1 : Int32) (a2 : Int32) (a3 : Int32) (st : St) (res : (Int32 × St)) (hf : fX0_distance n  a1 a2 a3 st = some res) {sz : Nat} : CtI l yX0_distance (wsU yX0_distance cX0_distance 4 (some .int)) (rmK 3) D G ad sz [.ref (ad 43), .int a1, .int a2, .int a3] st res := by
  refine Met.ofW (cc := cX0_distance) (maxL := 4) (ret := (some .int)) (by decide) rfl ?_
  intro p e s m args below meth c s₁ B hml hv
  obtain ⟨rfl, hsz, hP, hK, hSt⟩ := hv
  have hts := atoms_spec (ws := wsU yX0_distance cX0_distance 4 (some .int)) B.pre
  have C : Cx p s m _ meth c cX0_distance 4 wsL_law RX0 (some .int) D G ad := ⟨B.exec, B.bytes, hml, findClass_of_methodNamed B.named, fun w h => hts w (List.mem_cons_of_mem _ h), B.returns, B.notSynchronized, hK, had, hSt⟩
  subst hsz
  have hl := lv_entry ([.ref (ad 43), .int a1, .int a2, .int a3]) (n := 4) (Nat.le_of_ble_eq_true rfl)
  rw [lg_entry_eq]
  generalize (lg_sl ([.ref (ad 43), .int a1, .int a2, .int a3]) ++ List.replicate (4 - (lg_sl ([.ref (ad 43), .int a1, .int a2, .int a3])).length) Slot.unset).toArray = ls at hl ⊢
  exact wX0_distance_s0 C n  a1 a2 a3   st res hf s.heap [] ls (lv_sub hl [0, 1, 2, 3] rfl) hP va_S.rf
section
variable {p : Program} {l : Launch} {e : Env} {s : State} {m : MethodId} {args : Array Value} {below : List Frame} {meth : Method} {c : Code} {D : va_G} {G : G3} {ad : Nat → Nat}
def fX0_isCalm_s121 (n : Nat)    (st : St) : Option (Int32 × St) := some (1, st)
set_option maxHeartbeats 4000000 in
set_option maxRecDepth 100000 in
theorem wX0_isCalm_s121 (C : Cx p s m args meth c cX0_isCalm 8 wsL_law RX0 (some .boolean) D G ad) (n : Nat)      (st : St) (res : (Int32 × St))  (hf : fX0_isCalm_s121 n    st = some res) : At p l e (rmK 4) s m args below meth c D G ad (MQI D G ad below args s res) 8 st [] 121 [] := by
  obtain ⟨hx, hb, hml, hown, hts, hr, hlk, hK, had, hSt⟩ := id C
  intro H locs ls hl hP hS
  unfold fX0_isCalm_s121 at hf
  refine lv_iconst (v := 1) hx hb dX0_isCalm_121 (by decide) ?_
  exact g_zret hx hb hr hlk hP hS (Or.inr rfl) dX0_isCalm_122 hf
def fX0_isCalm_s115 (n : Nat) (K14 : Int32 → Int32 → Int32 → St → Option (Int32 × St))  (v1 : Int32) (v2 : Int32) (v3 : Int32) (st : St) : Option (Int32 × St) := K14 v1 v2 (v3 + (-1)) st
set_option maxHeartbeats 4000000 in
set_option maxRecDepth 100000 in
theorem wX0_isCalm_s115 (C : Cx p s m args meth c cX0_isCalm 8 wsL_law RX0 (some .boolean) D G ad) (n : Nat) (K14 : Int32 → Int32 → Int32 → St → Option (Int32 × St))  (v1 : Int32) (v2 : Int32) (v3 : Int32)   (st : St) (res : (Int32 × St)) (hK14 : ∀ (v1 : Int32) (v2 : Int32) (v3 : Int32) (st : St), K14 v1 v2 v3 st = some res → At p l e (rmK 4) s m args below meth c D G ad (MQI D G ad below args s res) 8 st [(0, .ref (ad 43)), (1, .int v1), (2, .int v2), (3, .int v3)] 14 []) (hf : fX0_isCalm_s115 n K14  v1 v2 v3 st = some res) : At p l e (rmK 4) s m args below meth c D G ad (MQI D G ad below args s res) 8 st [(0, .ref (ad 43)), (1, .int v1), (2, .int v2), (3, .int v3)] 115 [] := by
  obtain ⟨hx, hb, hml, hown, hts, hr, hlk, hK, had, hSt⟩ := id C
  intro H locs ls hl hP hS
  unfold fX0_isCalm_s115 at hf
  refine lv_iinc (v := v3 + (-1)) (lv' := [(3, .int (v3 + (-1))), (0, .ref (ad 43)), (1, .int v1), (2, .int v2)]) hx hb dX0_isCalm_115 hl (k := 3) rfl rfl (by decide) rfl (fun ls hl => ?_)
  refine lv_goto (tgt := 14) hx hb dX0_isCalm_118 (by decide) ?_
  exact hK14 v1 v2 (v3 + (-1))  st hf H locs ls (lv_sub hl [1, 2, 3, 0] rfl) hP hS
def fX0_isCalm_s113 (n : Nat)    (st : St) : Option (Int32 × St) := some (0, st)
set_option maxHeartbeats 4000000 in
set_option maxRecDepth 100000 in
theorem wX0_isCalm_s113 (C : Cx p s m args meth c cX0_isCalm 8 wsL_law RX0 (some .boolean) D G ad) (n : Nat)      (st : St) (res : (Int32 × St))  (hf : fX0_isCalm_s113 n    st = some res) : At p l e (rmK 4) s m args below meth c D G ad (MQI D G ad below args s res) 8 st [] 113 [] := by
  obtain ⟨hx, hb, hml, hown, hts, hr, hlk, hK, had, hSt⟩ := id C
  intro H locs ls hl hP hS
  unfold fX0_isCalm_s113 at hf
  refine lv_iconst (v := 0) hx hb dX0_isCalm_113 (by decide) ?_
  exact g_zret hx hb hr hlk hP hS (Or.inl rfl) dX0_isCalm_114 hf
def fX0_isCalm_s108 (n : Nat) (K14 : Int32 → Int32 → Int32 → St → Option (Int32 × St))  (v1 : Int32) (v2 : Int32) (v3 : Int32) (v6 : Int32) (st : St) : Option (Int32 × St) := if v6 = 0 then fX0_isCalm_s115 n K14 v1 v2 v3 st else fX0_isCalm_s113 n st
set_option maxHeartbeats 4000000 in
set_option maxRecDepth 100000 in
theorem wX0_isCalm_s108 (C : Cx p s m args meth c cX0_isCalm 8 wsL_law RX0 (some .boolean) D G ad) (n : Nat) (K14 : Int32 → Int32 → Int32 → St → Option (Int32 × St))  (v1 : Int32) (v2 : Int32) (v3 : Int32) (v6 : Int32)   (st : St) (res : (Int32 × St)) (hK14 : ∀ (v1 : Int32) (v2 : Int32) (v3 : Int32) (st : St), K14 v1 v2 v3 st = some res → At p l e (rmK 4) s m args below meth c D G ad (MQI D G ad below args s res) 8 st [(0, .ref (ad 43)), (1, .int v1), (2, .int v2), (3, .int v3)] 14 []) (hf : fX0_isCalm_s108 n K14  v1 v2 v3 v6 st = some res) : At p l e (rmK 4) s m args below meth c D G ad (MQI D G ad below args s res) 8 st [(0, .ref (ad 43)), (1, .int v1), (2, .int v2), (3, .int v3), (6, .int v6)] 108 [] := by
  obtain ⟨hx, hb, hml, hown, hts, hr, hlk, hK, had, hSt⟩ := id C
  intro H locs ls hl hP hS
  unfold fX0_isCalm_s108 at hf
  refine lv_iload hx hb dX0_isCalm_108 (lv_at hl 4 rfl) ?_
  refine lv_if_eq (tgt := 115) hx hb dX0_isCalm_110 (by decide) (fun q => ?_) (fun q => ?_)
  · exact wX0_isCalm_s115 C n K14 v1 v2 v3 st res hK14 (it hf q) H locs ls (lv_sub hl [0, 1, 2, 3] rfl) hP hS
  · exact wX0_isCalm_s113 C n st res (ie hf q) H locs ls (lv_sub hl [] rfl) hP hS
def fX0_isCalm_s97 (n : Nat) (K14 : Int32 → Int32 → Int32 → St → Option (Int32 × St))  (v1 : Int32) (v2 : Int32) (v3 : Int32) (v4 : Int32) (v6 : Int32) (st : St) : Option (Int32 × St) := if inb v3 8 = true then (fX0_isCalm_s108 n K14 v1 v2 v3 v6 (setI st 45 v3.toNatClampNeg v4)) else none
set_option maxHeartbeats 4000000 in
set_option maxRecDepth 100000 in
theorem wX0_isCalm_s97 (C : Cx p s m args meth c cX0_isCalm 8 wsL_law RX0 (some .boolean) D G ad) (n : Nat) (K14 : Int32 → Int32 → Int32 → St → Option (Int32 × St))  (v1 : Int32) (v2 : Int32) (v3 : Int32) (v4 : Int32) (v6 : Int32)   (st : St) (res : (Int32 × St)) (hK14 : ∀ (v1 : Int32) (v2 : Int32) (v3 : Int32) (st : St), K14 v1 v2 v3 st = some res → At p l e (rmK 4) s m args below meth c D G ad (MQI D G ad below args s res) 8 st [(0, .ref (ad 43)), (1, .int v1), (2, .int v2), (3, .int v3)] 14 []) (hf : fX0_isCalm_s97 n K14  v1 v2 v3 v4 v6 st = some res) : At p l e (rmK 4) s m args below meth c D G ad (MQI D G ad below args s res) 8 st [(0, .ref (ad 43)), (1, .int v1), (2, .int v2), (3, .int v3), (4, .int v4), (6, .int v6)] 97 [] := by
  obtain ⟨hx, hb, hml, hown, hts, hr, hlk, hK, had, hSt⟩ := id C
  intro H locs ls hl hP hS
  unfold fX0_isCalm_s97 at hf
  refine lv_aload_n hx hb dX0_isCalm_97 rfl (lv_at hl 0 rfl) ?_
  refine g_getR hx hb hts inlX0 hown hK hP 43 ct_43 rfl 0 (by decide) (hts _ wm_6_7) rfl dX0_isCalm_98 ?_
  refine g_getR hx hb hts inlX8 hown hK hP 44 ct_44 rfl 0 (by decide) (hts _ wm_49_0) rfl dX0_isCalm_101 ?_
  refine lv_iload_n hx hb dX0_isCalm_104 rfl (lv_at hl 3 rfl) ?_
  refine lv_iload hx hb dX0_isCalm_105 (lv_at hl 4 rfl) ?_
  obtain ⟨g1, hf⟩ := gd hf
  refine g_iast hx hb hK had hP hS 45 ct_45 g1 dX0_isCalm_107 (fun H locs hP hS => ?_)
  exact wX0_isCalm_s108 C n K14 v1 v2 v3 v6 (setI st 45 v3.toNatClampNeg v4) res hK14 hf H locs ls (lv_sub hl [0, 1, 2, 3, 5] rfl) hP hS
def fX0_isCalm_s89 (n : Nat) (K14 : Int32 → Int32 → Int32 → St → Option (Int32 × St)) (K44 : Int32 → Int32 → Int32 → Int32 → Int32 → Int32 → Int32 → St → Option (Int32 × St))  (v1 : Int32) (v2 : Int32) (v3 : Int32) (v4 : Int32) (v5 : Int32) (v7 : Int32) (k0 : Int32) (st : St) : Option (Int32 × St) := K44 v1 v2 v3 v4 v5 k0 (v7 + 1) st
set_option maxHeartbeats 4000000 in
set_option maxRecDepth 100000 in
theorem wX0_isCalm_s89 (C : Cx p s m args meth c cX0_isCalm 8 wsL_law RX0 (some .boolean) D G ad) (n : Nat) (K14 : Int32 → Int32 → Int32 → St → Option (Int32 × St)) (K44 : Int32 → Int32 → Int32 → Int32 → Int32 → Int32 → Int32 → St → Option (Int32 × St))  (v1 : Int32) (v2 : Int32) (v3 : Int32) (v4 : Int32) (v5 : Int32) (v7 : Int32) (k0 : Int32)   (st : St) (res : (Int32 × St)) (hK14 : ∀ (v1 : Int32) (v2 : Int32) (v3 : Int32) (st : St), K14 v1 v2 v3 st = some res → At p l e (rmK 4) s m args below meth c D G ad (MQI D G ad below args s res) 8 st [(0, .ref (ad 43)), (1, .int v1), (2, .int v2), (3, .int v3)] 14 []) (hK44 : ∀ (v1 : Int32) (v2 : Int32) (v3 : Int32) (v4 : Int32) (v5 : Int32) (v6 : Int32) (v7 : Int32) (st : St), K44 v1 v2 v3 v4 v5 v6 v7 st = some res → At p l e (rmK 4) s m args below meth c D G ad (MQI D G ad below args s res) 8 st [(0, .ref (ad 43)), (1, .int v1), (2, .int v2), (3, .int v3), (4, .int v4), (5, .int v5), (6, .int v6), (7, .int v7)] 44 []) (hf : fX0_isCalm_s89 n K14 K44  v1 v2 v3 v4 v5 v7 k0 st = some res) : At p l e (rmK 4) s m args below meth c D G ad (MQI D G ad below args s res) 8 st [(0, .ref (ad 43)), (1, .int v1), (2, .int v2), (3, .int v3), (4, .int v4), (5, .int v5), (7, .int v7)] 89 [.int k0] := by
  obtain ⟨hx, hb, hml, hown, hts, hr, hlk, hK, had, hSt⟩ := id C
  intro H locs ls hl hP hS
  unfold fX0_isCalm_s89 at hf
  refine lv_istore (lv' := [(6, .int k0), (0, .ref (ad 43)), (1, .int v1), (2, .int v2), (3, .int v3), (4, .int v4), (5, .int v5), (7, .int v7)]) hx hb dX0_isCalm_89 hl (by decide) rfl (fun ls hl => ?_)
  refine lv_iinc (v := v7 + 1) (lv' := [(7, .int (v7 + 1)), (6, .int k0), (0, .ref (ad 43)), (1, .int v1), (2, .int v2), (3, .int v3), (4, .int v4), (5, .int v5)]) hx hb dX0_isCalm_91 hl (k := 7) rfl rfl (by decide) rfl (fun ls hl => ?_)
  refine lv_goto (tgt := 44) hx hb dX0_isCalm_94 (by decide) ?_
  exact hK44 v1 v2 v3 v4 v5 k0 (v7 + 1)  st hf H locs ls (lv_sub hl [2, 3, 4, 5, 6, 7, 1, 0] rfl) hP hS
def fX0_isCalm_s88 (n : Nat) (K14 : Int32 → Int32 → Int32 → St → Option (Int32 × St)) (K44 : Int32 → Int32 → Int32 → Int32 → Int32 → Int32 → Int32 → St → Option (Int32 × St))  (v1 : Int32) (v2 : Int32) (v3 : Int32) (v4 : Int32) (v5 : Int32) (v7 : Int32) (st : St) : Option (Int32 × St) := fX0_isCalm_s89 n K14 K44 v1 v2 v3 v4 v5 v7 0 st
set_option maxHeartbeats 4000000 in
set_option maxRecDepth 100000 in
theorem wX0_isCalm_s88 (C : Cx p s m args meth c cX0_isCalm 8 wsL_law RX0 (some .boolean) D G ad) (n : Nat) (K14 : Int32 → Int32 → Int32 → St → Option (Int32 × St)) (K44 : Int32 → Int32 → Int32 → Int32 → Int32 → Int32 → Int32 → St → Option (Int32 × St))  (v1 : Int32) (v2 : Int32) (v3 : Int32) (v4 : Int32) (v5 : Int32) (v7 : Int32)   (st : St) (res : (Int32 × St)) (hK14 : ∀ (v1 : Int32) (v2 : Int32) (v3 : Int32) (st : St), K14 v1 v2 v3 st = some res → At p l e (rmK 4) s m args below meth c D G ad (MQI D G ad below args s res) 8 st [(0, .ref (ad 43)), (1, .int v1), (2, .int v2), (3, .int v3)] 14 []) (hK44 : ∀ (v1 : Int32) (v2 : Int32) (v3 : Int32) (v4 : Int32) (v5 : Int32) (v6 : Int32) (v7 : Int32) (st : St), K44 v1 v2 v3 v4 v5 v6 v7 st = some res → At p l e (rmK 4) s m args below meth c D G ad (MQI D G ad below args s res) 8 st [(0, .ref (ad 43)), (1, .int v1), (2, .int v2), (3, .int v3), (4, .int v4), (5, .int v5), (6, .int v6), (7, .int v7)] 44 []) (hf : fX0_isCalm_s88 n K14 K44  v1 v2 v3 v4 v5 v7 st = some res) : At p l e (rmK 4) s m args below meth c D G ad (MQI D G ad below args s res) 8 st [(0, .ref (ad 43)), (1, .int v1), (2, .int v2), (3, .int v3), (4, .int v4), (5, .int v5), (7, .int v7)] 88 [] := by
  obtain ⟨hx, hb, hml, hown, hts, hr, hlk, hK, had, hSt⟩ := id C
  intro H locs ls hl hP hS
  unfold fX0_isCalm_s88 at hf
  refine lv_iconst (v := 0) hx hb dX0_isCalm_88 (by decide) ?_
  exact wX0_isCalm_s89 C n K14 K44 v1 v2 v3 v4 v5 v7 0 st res hK14 hK44 hf H locs ls (lv_sub hl [0, 1, 2, 3, 4, 5, 6] rfl) hP hS
def fX0_isCalm_s84 (n : Nat) (K14 : Int32 → Int32 → Int32 → St → Option (Int32 × St)) (K44 : Int32 → Int32 → Int32 → Int32 → Int32 → Int32 → Int32 → St → Option (Int32 × St))  (v1 : Int32) (v2 : Int32) (v3 : Int32) (v4 : Int32) (v5 : Int32) (v7 : Int32) (st : St) : Option (Int32 × St) := fX0_isCalm_s89 n K14 K44 v1 v2 v3 v4 v5 v7 1 st
set_option maxHeartbeats 4000000 in
set_option maxRecDepth 100000 in
theorem wX0_isCalm_s84 (C : Cx p s m args meth c cX0_isCalm 8 wsL_law RX0 (some .boolean) D G ad) (n : Nat) (K14 : Int32 → Int32 → Int32 → St → Option (Int32 × St)) (K44 : Int32 → Int32 → Int32 → Int32 → Int32 → Int32 → Int32 → St → Option (Int32 × St))  (v1 : Int32) (v2 : Int32) (v3 : Int32) (v4 : Int32) (v5 : Int32) (v7 : Int32)   (st : St) (res : (Int32 × St)) (hK14 : ∀ (v1 : Int32) (v2 : Int32) (v3 : Int32) (st : St), K14 v1 v2 v3 st = some res → At p l e (rmK 4) s m args below meth c D G ad (MQI D G ad below args s res) 8 st [(0, .ref (ad 43)), (1, .int v1), (2, .int v2), (3, .int v3)] 14 []) (hK44 : ∀ (v1 : Int32) (v2 : Int32) (v3 : Int32) (v4 : Int32) (v5 : Int32) (v6 : Int32) (v7 : Int32) (st : St), K44 v1 v2 v3 v4 v5 v6 v7 st = some res → At p l e (rmK 4) s m args below meth c D G ad (MQI D G ad below args s res) 8 st [(0, .ref (ad 43)), (1, .int v1), (2, .int v2), (3, .int v3), (4, .int v4), (5, .int v5), (6, .int v6), (7, .int v7)] 44 []) (hf : fX0_isCalm_s84 n K14 K44  v1 v2 v3 v4 v5 v7 st = some res) : At p l e (rmK 4) s m args below meth c D G ad (MQI D G ad below args s res) 8 st [(0, .ref (ad 43)), (1, .int v1), (2, .int v2), (3, .int v3), (4, .int v4), (5, .int v5), (7, .int v7)] 84 [] := by
  obtain ⟨hx, hb, hml, hown, hts, hr, hlk, hK, had, hSt⟩ := id C
  intro H locs ls hl hP hS
  unfold fX0_isCalm_s84 at hf
  refine lv_iconst (v := 1) hx hb dX0_isCalm_84 (by decide) ?_
  refine lv_goto (tgt := 89) hx hb dX0_isCalm_85 (by decide) ?_
  exact wX0_isCalm_s89 C n K14 K44 v1 v2 v3 v4 v5 v7 1 st res hK14 hK44 hf H locs ls (lv_sub hl [0, 1, 2, 3, 4, 5, 6] rfl) hP hS
def fX0_isCalm_s79 (n : Nat) (K14 : Int32 → Int32 → Int32 → St → Option (Int32 × St)) (K44 : Int32 → Int32 → Int32 → Int32 → Int32 → Int32 → Int32 → St → Option (Int32 × St))  (v1 : Int32) (v2 : Int32) (v3 : Int32) (v4 : Int32) (v5 : Int32) (v7 : Int32) (k0 : Int32) (st : St) : Option (Int32 × St) := if v5 ≤ k0 then fX0_isCalm_s88 n K14 K44 v1 v2 v3 v4 v5 v7 st else fX0_isCalm_s84 n K14 K44 v1 v2 v3 v4 v5 v7 st
set_option maxHeartbeats 4000000 in
set_option maxRecDepth 100000 in
theorem wX0_isCalm_s79 (C : Cx p s m args meth c cX0_isCalm 8 wsL_law RX0 (some .boolean) D G ad) (n : Nat) (K14 : Int32 → Int32 → Int32 → St → Option (Int32 × St)) (K44 : Int32 → Int32 → Int32 → Int32 → Int32 → Int32 → Int32 → St → Option (Int32 × St))  (v1 : Int32) (v2 : Int32) (v3 : Int32) (v4 : Int32) (v5 : Int32) (v7 : Int32) (k0 : Int32)   (st : St) (res : (Int32 × St)) (hK14 : ∀ (v1 : Int32) (v2 : Int32) (v3 : Int32) (st : St), K14 v1 v2 v3 st = some res → At p l e (rmK 4) s m args below meth c D G ad (MQI D G ad below args s res) 8 st [(0, .ref (ad 43)), (1, .int v1), (2, .int v2), (3, .int v3)] 14 []) (hK44 : ∀ (v1 : Int32) (v2 : Int32) (v3 : Int32) (v4 : Int32) (v5 : Int32) (v6 : Int32) (v7 : Int32) (st : St), K44 v1 v2 v3 v4 v5 v6 v7 st = some res → At p l e (rmK 4) s m args below meth c D G ad (MQI D G ad below args s res) 8 st [(0, .ref (ad 43)), (1, .int v1), (2, .int v2), (3, .int v3), (4, .int v4), (5, .int v5), (6, .int v6), (7, .int v7)] 44 []) (hf : fX0_isCalm_s79 n K14 K44  v1 v2 v3 v4 v5 v7 k0 st = some res) : At p l e (rmK 4) s m args below meth c D G ad (MQI D G ad below args s res) 8 st [(0, .ref (ad 43)), (1, .int v1), (2, .int v2), (3, .int v3), (4, .int v4), (5, .int v5), (7, .int v7)] 79 [.int k0] := by
  obtain ⟨hx, hb, hml, hown, hts, hr, hlk, hK, had, hSt⟩ := id C
  intro H locs ls hl hP hS
  unfold fX0_isCalm_s79 at hf
  refine lv_iload hx hb dX0_isCalm_79 (lv_at hl 5 rfl) ?_
  refine lv_icmp_ge (tgt := 88) hx hb dX0_isCalm_81 (by decide) (fun q => ?_) (fun q => ?_)
  · exact wX0_isCalm_s88 C n K14 K44 v1 v2 v3 v4 v5 v7 st res hK14 hK44 (it hf q) H locs ls (lv_sub hl [0, 1, 2, 3, 4, 5, 6] rfl) hP hS
  · exact wX0_isCalm_s84 C n K14 K44 v1 v2 v3 v4 v5 v7 st res hK14 hK44 (ie hf q) H locs ls (lv_sub hl [0, 1, 2, 3, 4, 5, 6] rfl) hP hS
def fX0_isCalm_s72 (n : Nat) (K14 : Int32 → Int32 → Int32 → St → Option (Int32 × St)) (K44 : Int32 → Int32 → Int32 → Int32 → Int32 → Int32 → Int32 → St → Option (Int32 × St))  (v1 : Int32) (v2 : Int32) (v3 : Int32) (v4 : Int32) (v5 : Int32) (v7 : Int32) (st : St) : Option (Int32 × St) := (fX0_distance n v3 v1 v2 st).bind (fun q => fX0_isCalm_s79 n K14 K44 v1 v2 v3 v4 v5 v7 q.1 q.2)
set_option maxHeartbeats 4000000 in
set_option maxRecDepth 100000 in
theorem wX0_isCalm_s72 (C : Cx p s m args meth c cX0_isCalm 8 wsL_law RX0 (some .boolean) D G ad) (n : Nat) (K14 : Int32 → Int32 → Int32 → St → Option (Int32 × St)) (K44 : Int32 → Int32 → Int32 → Int32 → Int32 → Int32 → Int32 → St → Option (Int32 × St))  (v1 : Int32) (v2 : Int32) (v3 : Int32) (v4 : Int32) (v5 : Int32) (v7 : Int32)   (st : St) (res : (Int32 × St)) (hK14 : ∀ (v1 : Int32) (v2 : Int32) (v3 : Int32) (st : St), K14 v1 v2 v3 st = some res → At p l e (rmK 4) s m args below meth c D G ad (MQI D G ad below args s res) 8 st [(0, .ref (ad 43)), (1, .int v1), (2, .int v2), (3, .int v3)] 14 []) (hK44 : ∀ (v1 : Int32) (v2 : Int32) (v3 : Int32) (v4 : Int32) (v5 : Int32) (v6 : Int32) (v7 : Int32) (st : St), K44 v1 v2 v3 v4 v5 v6 v7 st = some res → At p l e (rmK 4) s m args below meth c D G ad (MQI D G ad below args s res) 8 st [(0, .ref (ad 43)), (1, .int v1), (2, .int v2), (3, .int v3), (4, .int v4), (5, .int v5), (6, .int v6), (7, .int v7)] 44 []) (hf : fX0_isCalm_s72 n K14 K44  v1 v2 v3 v4 v5 v7 st = some res) : At p l e (rmK 4) s m args below meth c D G ad (MQI D G ad below args s res) 8 st [(0, .ref (ad 43)), (1, .int v1), (2, .int v2), (3, .int v3), (4, .int v4), (5, .int v5), (7, .int v7)] 72 [] := by
  obtain ⟨hx, hb, hml, hown, hts, hr, hlk, hK, had, hSt⟩ := id C
  intro H locs ls hl hP hS
  unfold fX0_isCalm_s72 at hf
  refine lv_aload_n hx hb dX0_isCalm_72 rfl (lv_at hl 0 rfl) ?_
  refine lv_iload_n hx hb dX0_isCalm_73 rfl (lv_at hl 3 rfl) ?_
  refine lv_iload_n hx hb dX0_isCalm_74 rfl (lv_at hl 1 rfl) ?_
  refine lv_iload_n hx hb dX0_isCalm_75 rfl (lv_at hl 2 rfl) ?_
  obtain ⟨q, hq, hf⟩ := bd hf
  refine gcV_i (k := 3) (o := 43) (As := [.int v3, .int v1, .int v2]) (rest := []) hx hb hml hown hts hK hSt hP hS hl.1 (goodV wm_49_1 wm_49_2 wm_49_3 wm_2_23 wm_49_4) okX0_distance ct_43 rfl rfl (Nat.le_of_ble_eq_true rfl) (Nat.le_of_ble_eq_true rfl) rfl rfl (Nat.le_of_ble_eq_true rfl) dX0_isCalm_76 (kX0_distance l D G ad had n  v3 v1 v2 st q hq) (fun H locs hP hS => ?_)
  exact wX0_isCalm_s79 C n K14 K44 v1 v2 v3 v4 v5 v7 q.1 q.2 res hK14 hK44 hf H locs ls (lv_sub hl [0, 1, 2, 3, 4, 5, 6] rfl) hP hS
def fX0_isCalm_s61 (n : Nat) (K14 : Int32 → Int32 → Int32 → St → Option (Int32 × St)) (K44 : Int32 → Int32 → Int32 → Int32 → Int32 → Int32 → Int32 → St → Option (Int32 × St))  (v1 : Int32) (v2 : Int32) (v3 : Int32) (v4 : Int32) (v5 : Int32) (v7 : Int32) (st : St) : Option (Int32 × St) := if inb v3 8 = true then (fX0_isCalm_s72 n K14 K44 v1 v2 v3 v4 v5 v7 (setI st 45 v3.toNatClampNeg v7)) else none
set_option maxHeartbeats 4000000 in
set_option maxRecDepth 100000 in
theorem wX0_isCalm_s61 (C : Cx p s m args meth c cX0_isCalm 8 wsL_law RX0 (some .boolean) D G ad) (n : Nat) (K14 : Int32 → Int32 → Int32 → St → Option (Int32 × St)) (K44 : Int32 → Int32 → Int32 → Int32 → Int32 → Int32 → Int32 → St → Option (Int32 × St))  (v1 : Int32) (v2 : Int32) (v3 : Int32) (v4 : Int32) (v5 : Int32) (v7 : Int32)   (st : St) (res : (Int32 × St)) (hK14 : ∀ (v1 : Int32) (v2 : Int32) (v3 : Int32) (st : St), K14 v1 v2 v3 st = some res → At p l e (rmK 4) s m args below meth c D G ad (MQI D G ad below args s res) 8 st [(0, .ref (ad 43)), (1, .int v1), (2, .int v2), (3, .int v3)] 14 []) (hK44 : ∀ (v1 : Int32) (v2 : Int32) (v3 : Int32) (v4 : Int32) (v5 : Int32) (v6 : Int32) (v7 : Int32) (st : St), K44 v1 v2 v3 v4 v5 v6 v7 st = some res → At p l e (rmK 4) s m args below meth c D G ad (MQI D G ad below args s res) 8 st [(0, .ref (ad 43)), (1, .int v1), (2, .int v2), (3, .int v3), (4, .int v4), (5, .int v5), (6, .int v6), (7, .int v7)] 44 []) (hf : fX0_isCalm_s61 n K14 K44  v1 v2 v3 v4 v5 v7 st = some res) : At p l e (rmK 4) s m args below meth c D G ad (MQI D G ad below args s res) 8 st [(0, .ref (ad 43)), (1, .int v1), (2, .int v2), (3, .int v3), (4, .int v4), (5, .int v5), (7, .int v7)] 61 [] := by
  obtain ⟨hx, hb, hml, hown, hts, hr, hlk, hK, had, hSt⟩ := id C
  intro H locs ls hl hP hS
  unfold fX0_isCalm_s61 at hf
  refine lv_aload_n hx hb dX0_isCalm_61 rfl (lv_at hl 0 rfl) ?_
  refine g_getR hx hb hts inlX0 hown hK hP 43 ct_43 rfl 0 (by decide) (hts _ wm_6_7) rfl dX0_isCalm_62 ?_
  refine g_getR hx hb hts inlX8 hown hK hP 44 ct_44 rfl 0 (by decide) (hts _ wm_49_0) rfl dX0_isCalm_65 ?_
  refine lv_iload_n hx hb dX0_isCalm_68 rfl (lv_at hl 3 rfl) ?_
  refine lv_iload hx hb dX0_isCalm_69 (lv_at hl 6 rfl) ?_
  obtain ⟨g1, hf⟩ := gd hf
  refine g_iast hx hb hK had hP hS 45 ct_45 g1 dX0_isCalm_71 (fun H locs hP hS => ?_)
  exact wX0_isCalm_s72 C n K14 K44 v1 v2 v3 v4 v5 v7 (setI st 45 v3.toNatClampNeg v7) res hK14 hK44 hf H locs ls (lv_sub hl [0, 1, 2, 3, 4, 5, 6] rfl) hP hS
def fX0_isCalm_s56 (n : Nat) (K14 : Int32 → Int32 → Int32 → St → Option (Int32 × St)) (K44 : Int32 → Int32 → Int32 → Int32 → Int32 → Int32 → Int32 → St → Option (Int32 × St))  (v1 : Int32) (v2 : Int32) (v3 : Int32) (v4 : Int32) (v5 : Int32) (v6 : Int32) (v7 : Int32) (st : St) : Option (Int32 × St) := if v6 = 0 then fX0_isCalm_s61 n K14 K44 v1 v2 v3 v4 v5 v7 st else fX0_isCalm_s97 n K14 v1 v2 v3 v4 v6 st
set_option maxHeartbeats 4000000 in
set_option maxRecDepth 100000 in
theorem wX0_isCalm_s56 (C : Cx p s m args meth c cX0_isCalm 8 wsL_law RX0 (some .boolean) D G ad) (n : Nat) (K14 : Int32 → Int32 → Int32 → St → Option (Int32 × St)) (K44 : Int32 → Int32 → Int32 → Int32 → Int32 → Int32 → Int32 → St → Option (Int32 × St))  (v1 : Int32) (v2 : Int32) (v3 : Int32) (v4 : Int32) (v5 : Int32) (v6 : Int32) (v7 : Int32)   (st : St) (res : (Int32 × St)) (hK14 : ∀ (v1 : Int32) (v2 : Int32) (v3 : Int32) (st : St), K14 v1 v2 v3 st = some res → At p l e (rmK 4) s m args below meth c D G ad (MQI D G ad below args s res) 8 st [(0, .ref (ad 43)), (1, .int v1), (2, .int v2), (3, .int v3)] 14 []) (hK44 : ∀ (v1 : Int32) (v2 : Int32) (v3 : Int32) (v4 : Int32) (v5 : Int32) (v6 : Int32) (v7 : Int32) (st : St), K44 v1 v2 v3 v4 v5 v6 v7 st = some res → At p l e (rmK 4) s m args below meth c D G ad (MQI D G ad below args s res) 8 st [(0, .ref (ad 43)), (1, .int v1), (2, .int v2), (3, .int v3), (4, .int v4), (5, .int v5), (6, .int v6), (7, .int v7)] 44 []) (hf : fX0_isCalm_s56 n K14 K44  v1 v2 v3 v4 v5 v6 v7 st = some res) : At p l e (rmK 4) s m args below meth c D G ad (MQI D G ad below args s res) 8 st [(0, .ref (ad 43)), (1, .int v1), (2, .int v2), (3, .int v3), (4, .int v4), (5, .int v5), (6, .int v6), (7, .int v7)] 56 [] := by
  obtain ⟨hx, hb, hml, hown, hts, hr, hlk, hK, had, hSt⟩ := id C
  intro H locs ls hl hP hS
  unfold fX0_isCalm_s56 at hf
  refine lv_iload hx hb dX0_isCalm_56 (lv_at hl 6 rfl) ?_
  refine lv_if_ne (tgt := 97) hx hb dX0_isCalm_58 (by decide) (fun q => ?_) (fun q => ?_)
  · exact wX0_isCalm_s97 C n K14 v1 v2 v3 v4 v6 st res hK14 (ie hf q) H locs ls (lv_sub hl [0, 1, 2, 3, 4, 6] rfl) hP hS
  · exact wX0_isCalm_s61 C n K14 K44 v1 v2 v3 v4 v5 v7 st res hK14 hK44 (it hf q) H locs ls (lv_sub hl [0, 1, 2, 3, 4, 5, 7] rfl) hP hS
def fX0_isCalm_s51 (n : Nat) (K14 : Int32 → Int32 → Int32 → St → Option (Int32 × St)) (K44 : Int32 → Int32 → Int32 → Int32 → Int32 → Int32 → Int32 → St → Option (Int32 × St))  (v1 : Int32) (v2 : Int32) (v3 : Int32) (v4 : Int32) (v5 : Int32) (v6 : Int32) (v7 : Int32) (st : St) : Option (Int32 × St) := if v5 ≤ 0 then fX0_isCalm_s97 n K14 v1 v2 v3 v4 v6 st else fX0_isCalm_s56 n K14 K44 v1 v2 v3 v4 v5 v6 v7 st
set_option maxHeartbeats 4000000 in
set_option maxRecDepth 100000 in
theorem wX0_isCalm_s51 (C : Cx p s m args meth c cX0_isCalm 8 wsL_law RX0 (some .boolean) D G ad) (n : Nat) (K14 : Int32 → Int32 → Int32 → St → Option (Int32 × St)) (K44 : Int32 → Int32 → Int32 → Int32 → Int32 → Int32 → Int32 → St → Option (Int32 × St))  (v1 : Int32) (v2 : Int32) (v3 : Int32) (v4 : Int32) (v5 : Int32) (v6 : Int32) (v7 : Int32)   (st : St) (res : (Int32 × St)) (hK14 : ∀ (v1 : Int32) (v2 : Int32) (v3 : Int32) (st : St), K14 v1 v2 v3 st = some res → At p l e (rmK 4) s m args below meth c D G ad (MQI D G ad below args s res) 8 st [(0, .ref (ad 43)), (1, .int v1), (2, .int v2), (3, .int v3)] 14 []) (hK44 : ∀ (v1 : Int32) (v2 : Int32) (v3 : Int32) (v4 : Int32) (v5 : Int32) (v6 : Int32) (v7 : Int32) (st : St), K44 v1 v2 v3 v4 v5 v6 v7 st = some res → At p l e (rmK 4) s m args below meth c D G ad (MQI D G ad below args s res) 8 st [(0, .ref (ad 43)), (1, .int v1), (2, .int v2), (3, .int v3), (4, .int v4), (5, .int v5), (6, .int v6), (7, .int v7)] 44 []) (hf : fX0_isCalm_s51 n K14 K44  v1 v2 v3 v4 v5 v6 v7 st = some res) : At p l e (rmK 4) s m args below meth c D G ad (MQI D G ad below args s res) 8 st [(0, .ref (ad 43)), (1, .int v1), (2, .int v2), (3, .int v3), (4, .int v4), (5, .int v5), (6, .int v6), (7, .int v7)] 51 [] := by
  obtain ⟨hx, hb, hml, hown, hts, hr, hlk, hK, had, hSt⟩ := id C
  intro H locs ls hl hP hS
  unfold fX0_isCalm_s51 at hf
  refine lv_iload hx hb dX0_isCalm_51 (lv_at hl 5 rfl) ?_
  refine lv_if_le (tgt := 97) hx hb dX0_isCalm_53 (by decide) (fun q => ?_) (fun q => ?_)
  · exact wX0_isCalm_s97 C n K14 v1 v2 v3 v4 v6 st res hK14 (it hf q) H locs ls (lv_sub hl [0, 1, 2, 3, 4, 6] rfl) hP hS
  · exact wX0_isCalm_s56 C n K14 K44 v1 v2 v3 v4 v5 v6 v7 st res hK14 hK44 (ie hf q) H locs ls (lv_sub hl [0, 1, 2, 3, 4, 5, 6, 7] rfl) hP hS
def fX0_isCalm_s44 (n : Nat) (K14 : Int32 → Int32 → Int32 → St → Option (Int32 × St)) (K44 : Int32 → Int32 → Int32 → Int32 → Int32 → Int32 → Int32 → St → Option (Int32 × St))  (v1 : Int32) (v2 : Int32) (v3 : Int32) (v4 : Int32) (v5 : Int32) (v6 : Int32) (v7 : Int32) (st : St) : Option (Int32 × St) := if 12 < v7 then fX0_isCalm_s97 n K14 v1 v2 v3 v4 v6 st else fX0_isCalm_s51 n K14 K44 v1 v2 v3 v4 v5 v6 v7 st
set_option maxHeartbeats 4000000 in
set_option maxRecDepth 100000 in
theorem wX0_isCalm_s44 (C : Cx p s m args meth c cX0_isCalm 8 wsL_law RX0 (some .boolean) D G ad) (n : Nat) (K14 : Int32 → Int32 → Int32 → St → Option (Int32 × St)) (K44 : Int32 → Int32 → Int32 → Int32 → Int32 → Int32 → Int32 → St → Option (Int32 × St))  (v1 : Int32) (v2 : Int32) (v3 : Int32) (v4 : Int32) (v5 : Int32) (v6 : Int32) (v7 : Int32)   (st : St) (res : (Int32 × St)) (hK14 : ∀ (v1 : Int32) (v2 : Int32) (v3 : Int32) (st : St), K14 v1 v2 v3 st = some res → At p l e (rmK 4) s m args below meth c D G ad (MQI D G ad below args s res) 8 st [(0, .ref (ad 43)), (1, .int v1), (2, .int v2), (3, .int v3)] 14 []) (hK44 : ∀ (v1 : Int32) (v2 : Int32) (v3 : Int32) (v4 : Int32) (v5 : Int32) (v6 : Int32) (v7 : Int32) (st : St), K44 v1 v2 v3 v4 v5 v6 v7 st = some res → At p l e (rmK 4) s m args below meth c D G ad (MQI D G ad below args s res) 8 st [(0, .ref (ad 43)), (1, .int v1), (2, .int v2), (3, .int v3), (4, .int v4), (5, .int v5), (6, .int v6), (7, .int v7)] 44 []) (hf : fX0_isCalm_s44 n K14 K44  v1 v2 v3 v4 v5 v6 v7 st = some res) : At p l e (rmK 4) s m args below meth c D G ad (MQI D G ad below args s res) 8 st [(0, .ref (ad 43)), (1, .int v1), (2, .int v2), (3, .int v3), (4, .int v4), (5, .int v5), (6, .int v6), (7, .int v7)] 44 [] := by
  obtain ⟨hx, hb, hml, hown, hts, hr, hlk, hK, had, hSt⟩ := id C
  intro H locs ls hl hP hS
  unfold fX0_isCalm_s44 at hf
  refine lv_iload hx hb dX0_isCalm_44 (lv_at hl 7 rfl) ?_
  refine lv_bipush (v := 12) hx hb dX0_isCalm_46 (by decide) ?_
  refine lv_icmp_gt (tgt := 97) hx hb dX0_isCalm_48 (by decide) (fun q => ?_) (fun q => ?_)
  · exact wX0_isCalm_s97 C n K14 v1 v2 v3 v4 v6 st res hK14 (it hf q) H locs ls (lv_sub hl [0, 1, 2, 3, 4, 6] rfl) hP hS
  · exact wX0_isCalm_s51 C n K14 K44 v1 v2 v3 v4 v5 v6 v7 st res hK14 hK44 (ie hf q) H locs ls (lv_sub hl [0, 1, 2, 3, 4, 5, 6, 7] rfl) hP hS
def fX0_isCalm_L44 (n : Nat) (K14 : Int32 → Int32 → Int32 → St → Option (Int32 × St))  : Nat → Int32 → Int32 → Int32 → Int32 → Int32 → Int32 → Int32 → St → Option (Int32 × St)
  | 0, _, _, _, _, _, _, _, _ => none
  | k + 1, v1, v2, v3, v4, v5, v6, v7, st => fX0_isCalm_s44 n K14 (fX0_isCalm_L44 n K14 k)  v1 v2 v3 v4 v5 v6 v7 st
theorem wX0_isCalm_L44 (C : Cx p s m args meth c cX0_isCalm 8 wsL_law RX0 (some .boolean) D G ad) (n : Nat) (K14 : Int32 → Int32 → Int32 → St → Option (Int32 × St))   (res : (Int32 × St)) (hK14 : ∀ (v1 : Int32) (v2 : Int32) (v3 : Int32) (st : St), K14 v1 v2 v3 st = some res → At p l e (rmK 4) s m args below meth c D G ad (MQI D G ad below args s res) 8 st [(0, .ref (ad 43)), (1, .int v1), (2, .int v2), (3, .int v3)] 14 []) : ∀ (k : Nat) (v1 : Int32) (v2 : Int32) (v3 : Int32) (v4 : Int32) (v5 : Int32) (v6 : Int32) (v7 : Int32)  (st : St), fX0_isCalm_L44 n K14 k v1 v2 v3 v4 v5 v6 v7 st = some res → At p l e (rmK 4) s m args below meth c D G ad (MQI D G ad below args s res) 8 st [(0, .ref (ad 43)), (1, .int v1), (2, .int v2), (3, .int v3), (4, .int v4), (5, .int v5), (6, .int v6), (7, .int v7)] 44 [] := by
  intro k
  induction k with
  | zero => intro v1 v2 v3 v4 v5 v6 v7  st h; exact absurd h (by intro q; cases q)
  | succ k ih => intro v1 v2 v3 v4 v5 v6 v7  st h; exact wX0_isCalm_s44 C n K14 (fX0_isCalm_L44 n K14 k)  v1 v2 v3 v4 v5 v6 v7   st res hK14 ih h
def fX0_isCalm_s36 (n : Nat) (K14 : Int32 → Int32 → Int32 → St → Option (Int32 × St))  (v1 : Int32) (v2 : Int32) (v3 : Int32) (v4 : Int32) (k0 : Int32) (st : St) : Option (Int32 × St) := fX0_isCalm_L44 n K14 n v1 v2 v3 v4 k0 0 0 st
set_option maxHeartbeats 4000000 in
set_option maxRecDepth 100000 in
theorem wX0_isCalm_s36 (C : Cx p s m args meth c cX0_isCalm 8 wsL_law RX0 (some .boolean) D G ad) (n : Nat) (K14 : Int32 → Int32 → Int32 → St → Option (Int32 × St))  (v1 : Int32) (v2 : Int32) (v3 : Int32) (v4 : Int32) (k0 : Int32)   (st : St) (res : (Int32 × St)) (hK14 : ∀ (v1 : Int32) (v2 : Int32) (v3 : Int32) (st : St), K14 v1 v2 v3 st = some res → At p l e (rmK 4) s m args below meth c D G ad (MQI D G ad below args s res) 8 st [(0, .ref (ad 43)), (1, .int v1), (2, .int v2), (3, .int v3)] 14 []) (hf : fX0_isCalm_s36 n K14  v1 v2 v3 v4 k0 st = some res) : At p l e (rmK 4) s m args below meth c D G ad (MQI D G ad below args s res) 8 st [(0, .ref (ad 43)), (1, .int v1), (2, .int v2), (3, .int v3), (4, .int v4)] 36 [.int k0] := by
  obtain ⟨hx, hb, hml, hown, hts, hr, hlk, hK, had, hSt⟩ := id C
  intro H locs ls hl hP hS
  unfold fX0_isCalm_s36 at hf
  refine lv_istore (lv' := [(5, .int k0), (0, .ref (ad 43)), (1, .int v1), (2, .int v2), (3, .int v3), (4, .int v4)]) hx hb dX0_isCalm_36 hl (by decide) rfl (fun ls hl => ?_)
  refine lv_iconst (v := 0) hx hb dX0_isCalm_38 (by decide) ?_
  refine lv_istore (lv' := [(6, .int 0), (5, .int k0), (0, .ref (ad 43)), (1, .int v1), (2, .int v2), (3, .int v3), (4, .int v4)]) hx hb dX0_isCalm_39 hl (by decide) rfl (fun ls hl => ?_)
  refine lv_iconst (v := 0) hx hb dX0_isCalm_41 (by decide) ?_
  refine lv_istore (lv' := [(7, .int 0), (6, .int 0), (5, .int k0), (0, .ref (ad 43)), (1, .int v1), (2, .int v2), (3, .int v3), (4, .int v4)]) hx hb dX0_isCalm_42 hl (by decide) rfl (fun ls hl => ?_)
  exact wX0_isCalm_L44 C n K14 res hK14 n v1 v2 v3 v4 k0 0 0 st hf H locs ls (lv_sub hl [3, 4, 5, 6, 7, 2, 1, 0] rfl) hP hS
def fX0_isCalm_s18 (n : Nat) (K14 : Int32 → Int32 → Int32 → St → Option (Int32 × St))  (v1 : Int32) (v2 : Int32) (v3 : Int32) (st : St) : Option (Int32 × St) := if inb v3 8 = true then ((fX0_distance n v3 v1 v2 st).bind (fun q => fX0_isCalm_s36 n K14 v1 v2 v3 (st.1 45 v3.toNatClampNeg) q.1 q.2)) else none
set_option maxHeartbeats 4000000 in
set_option maxRecDepth 100000 in
theorem wX0_isCalm_s18 (C : Cx p s m args meth c cX0_isCalm 8 wsL_law RX0 (some .boolean) D G ad) (n : Nat) (K14 : Int32 → Int32 → Int32 → St → Option (Int32 × St))  (v1 : Int32) (v2 : Int32) (v3 : Int32)   (st : St) (res : (Int32 × St)) (hK14 : ∀ (v1 : Int32) (v2 : Int32) (v3 : Int32) (st : St), K14 v1 v2 v3 st = some res → At p l e (rmK 4) s m args below meth c D G ad (MQI D G ad below args s res) 8 st [(0, .ref (ad 43)), (1, .int v1), (2, .int v2), (3, .int v3)] 14 []) (hf : fX0_isCalm_s18 n K14  v1 v2 v3 st = some res) : At p l e (rmK 4) s m args below meth c D G ad (MQI D G ad below args s res) 8 st [(0, .ref (ad 43)), (1, .int v1), (2, .int v2), (3, .int v3)] 18 [] := by
  obtain ⟨hx, hb, hml, hown, hts, hr, hlk, hK, had, hSt⟩ := id C
  intro H locs ls hl hP hS
  unfold fX0_isCalm_s18 at hf
  refine lv_aload_n hx hb dX0_isCalm_18 rfl (lv_at hl 0 rfl) ?_
  refine g_getR hx hb hts inlX0 hown hK hP 43 ct_43 rfl 0 (by decide) (hts _ wm_6_7) rfl dX0_isCalm_19 ?_
  refine g_getR hx hb hts inlX8 hown hK hP 44 ct_44 rfl 0 (by decide) (hts _ wm_49_0) rfl dX0_isCalm_22 ?_
  refine lv_iload_n hx hb dX0_isCalm_25 rfl (lv_at hl 3 rfl) ?_
  obtain ⟨g1, hf⟩ := gd hf
  refine g_iald hx hb hK hP 45 ct_45 g1 dX0_isCalm_26 ?_
  refine lv_istore (lv' := [(4, .int (st.1 45 v3.toNatClampNeg)), (0, .ref (ad 43)), (1, .int v1), (2, .int v2), (3, .int v3)]) hx hb dX0_isCalm_27 hl (by decide) rfl (fun ls hl => ?_)
  refine lv_aload_n hx hb dX0_isCalm_29 rfl (lv_at hl 1 rfl) ?_
  refine lv_iload_n hx hb dX0_isCalm_30 rfl (lv_at hl 4 rfl) ?_
  refine lv_iload_n hx hb dX0_isCalm_31 rfl (lv_at hl 2 rfl) ?_
  refine lv_iload_n hx hb dX0_isCalm_32 rfl (lv_at hl 3 rfl) ?_
  obtain ⟨q, hq, hf⟩ := bd hf
  refine gcV_i (k := 3) (o := 43) (As := [.int v3, .int v1, .int v2]) (rest := []) hx hb hml hown hts hK hSt hP hS hl.1 (goodV wm_49_1 wm_49_2 wm_49_3 wm_2_23 wm_49_4) okX0_distance ct_43 rfl rfl (Nat.le_of_ble_eq_true rfl) (Nat.le_of_ble_eq_true rfl) rfl rfl (Nat.le_of_ble_eq_true rfl) dX0_isCalm_33 (kX0_distance l D G ad had n  v3 v1 v2 st q hq) (fun H locs hP hS => ?_)
  exact wX0_isCalm_s36 C n K14 v1 v2 v3 (st.1 45 v3.toNatClampNeg) q.1 q.2 res hK14 hf H locs ls (lv_sub hl [1, 2, 3, 4, 0] rfl) hP hS
def fX0_isCalm_s14 (n : Nat) (K14 : Int32 → Int32 → Int32 → St → Option (Int32 × St))  (v1 : Int32) (v2 : Int32) (v3 : Int32) (st : St) : Option (Int32 × St) := if v3 < 0 then fX0_isCalm_s121 n st else fX0_isCalm_s18 n K14 v1 v2 v3 st
set_option maxHeartbeats 4000000 in
set_option maxRecDepth 100000 in
theorem wX0_isCalm_s14 (C : Cx p s m args meth c cX0_isCalm 8 wsL_law RX0 (some .boolean) D G ad) (n : Nat) (K14 : Int32 → Int32 → Int32 → St → Option (Int32 × St))  (v1 : Int32) (v2 : Int32) (v3 : Int32)   (st : St) (res : (Int32 × St)) (hK14 : ∀ (v1 : Int32) (v2 : Int32) (v3 : Int32) (st : St), K14 v1 v2 v3 st = some res → At p l e (rmK 4) s m args below meth c D G ad (MQI D G ad below args s res) 8 st [(0, .ref (ad 43)), (1, .int v1), (2, .int v2), (3, .int v3)] 14 []) (hf : fX0_isCalm_s14 n K14  v1 v2 v3 st = some res) : At p l e (rmK 4) s m args below meth c D G ad (MQI D G ad below args s res) 8 st [(0, .ref (ad 43)), (1, .int v1), (2, .int v2), (3, .int v3)] 14 [] := by
  obtain ⟨hx, hb, hml, hown, hts, hr, hlk, hK, had, hSt⟩ := id C
  intro H locs ls hl hP hS
  unfold fX0_isCalm_s14 at hf
  refine lv_iload_n hx hb dX0_isCalm_14 rfl (lv_at hl 3 rfl) ?_
  refine lv_if_lt (tgt := 121) hx hb dX0_isCalm_15 (by decide) (fun q => ?_) (fun q => ?_)
  · exact wX0_isCalm_s121 C n st res (it hf q) H locs ls (lv_sub hl [] rfl) hP hS
  · exact wX0_isCalm_s18 C n K14 v1 v2 v3 st res hK14 (ie hf q) H locs ls (lv_sub hl [0, 1, 2, 3] rfl) hP hS
def fX0_isCalm_L14 (n : Nat)   : Nat → Int32 → Int32 → Int32 → St → Option (Int32 × St)
  | 0, _, _, _, _ => none
  | k + 1, v1, v2, v3, st => fX0_isCalm_s14 n (fX0_isCalm_L14 n k)  v1 v2 v3 st
theorem wX0_isCalm_L14 (C : Cx p s m args meth c cX0_isCalm 8 wsL_law RX0 (some .boolean) D G ad) (n : Nat)    (res : (Int32 × St))  : ∀ (k : Nat) (v1 : Int32) (v2 : Int32) (v3 : Int32)  (st : St), fX0_isCalm_L14 n k v1 v2 v3 st = some res → At p l e (rmK 4) s m args below meth c D G ad (MQI D G ad below args s res) 8 st [(0, .ref (ad 43)), (1, .int v1), (2, .int v2), (3, .int v3)] 14 [] := by
  intro k
  induction k with
  | zero => intro v1 v2 v3  st h; exact absurd h (by intro q; cases q)
  | succ k ih => intro v1 v2 v3  st h; exact wX0_isCalm_s14 C n (fX0_isCalm_L14 n k)  v1 v2 v3   st res ih h
def fX0_isCalm_s0 (n : Nat)   (v1 : Int32) (v2 : Int32) (st : St) : Option (Int32 × St) := fX0_isCalm_L14 n n v1 v2 ((if 4 < (st.1 44 2) then 4 else (st.1 44 2)) - 1) st
set_option maxHeartbeats 4000000 in
set_option maxRecDepth 100000 in
theorem wX0_isCalm_s0 (C : Cx p s m args meth c cX0_isCalm 8 wsL_law RX0 (some .boolean) D G ad) (n : Nat)   (v1 : Int32) (v2 : Int32)   (st : St) (res : (Int32 × St))  (hf : fX0_isCalm_s0 n   v1 v2 st = some res) : At p l e (rmK 4) s m args below meth c D G ad (MQI D G ad below args s res) 8 st [(0, .ref (ad 43)), (1, .int v1), (2, .int v2)] 0 [] := by
  obtain ⟨hx, hb, hml, hown, hts, hr, hlk, hK, had, hSt⟩ := id C
  intro H locs ls hl hP hS
  unfold fX0_isCalm_s0 at hf
  refine lv_aload_n hx hb dX0_isCalm_0 rfl (lv_at hl 0 rfl) ?_
  refine g_getR hx hb hts inlX0 hown hK hP 43 ct_43 rfl 0 (by decide) (hts _ wm_6_7) rfl dX0_isCalm_1 ?_
  refine g_getI hx hb hts inlX8 hown hK hP 44 ct_44 rfl 2 (by decide) (hts _ wm_47_12) rfl dX0_isCalm_4 ?_
  refine lv_iconst (v := 4) hx hb dX0_isCalm_7 (by decide) ?_
  refine va_mmin hx hb (hml.trans hl.1.symm) hown (hts _ wm_48_23) (hts _ wm_18_19) (hts _ wm_18_20) (hts _ wm_18_21) (Nat.le_of_ble_eq_true rfl) (Nat.le_of_ble_eq_true rfl) (Nat.zero_le _) (Nat.zero_le _) dX0_isCalm_8 ?_
  refine lv_iconst (v := 1) hx hb dX0_isCalm_11 (by decide) ?_
  refine lv_isub hx hb dX0_isCalm_12 ?_
  refine lv_istore_n (lv' := [(3, .int ((if 4 < (st.1 44 2) then 4 else (st.1 44 2)) - 1)), (0, .ref (ad 43)), (1, .int v1), (2, .int v2)]) hx hb dX0_isCalm_13 rfl hl (by decide) rfl (fun ls hl => ?_)
  exact wX0_isCalm_L14 C n res n v1 v2 ((if 4 < (st.1 44 2) then 4 else (st.1 44 2)) - 1) st hf H locs ls (lv_sub hl [1, 2, 3, 0] rfl) hP hS
def fX0_isCalm (n : Nat)  (a1 : Int32) (a2 : Int32) (st : St) : Option (Int32 × St) := fX0_isCalm_s0 n a1 a2 st
theorem okX0_isCalm : okY yX0_isCalm RX0 2 := by unfold okY; decide +kernel
end
set_option maxRecDepth 100000 in
theorem kX0_isCalm (l : Launch) (D : va_G) (G : G3) (ad : Nat → Nat) (had : Adr ad) (n : Nat)   (a1 : Int32) (a2 : Int32) (st : St) (res : (Int32 × St)) (hf : fX0_isCalm n  a1 a2 st = some res) {sz : Nat} : CtI l yX0_isCalm (wsU yX0_isCalm cX0_isCalm 8 (some .boolean)) (rmK 4) D G ad sz [.ref (ad 43), .int a1, .int a2] st res := by
  refine Met.ofW (cc := cX0_isCalm) (maxL := 8) (ret := (some .boolean)) (by decide) rfl ?_
  intro p e s m args below meth c s₁ B hml hv
  obtain ⟨rfl, hsz, hP, hK, hSt⟩ := hv
  have hts := atoms_spec (ws := wsU yX0_isCalm cX0_isCalm 8 (some .boolean)) B.pre
  have C : Cx p s m _ meth c cX0_isCalm 8 wsL_law RX0 (some .boolean) D G ad := ⟨B.exec, B.bytes, hml, findClass_of_methodNamed B.named, fun w h => hts w (List.mem_cons_of_mem _ h), B.returns, B.notSynchronized, hK, had, hSt⟩
  subst hsz
  have hl := lv_entry ([.ref (ad 43), .int a1, .int a2]) (n := 8) (Nat.le_of_ble_eq_true rfl)
  rw [lg_entry_eq]
  generalize (lg_sl ([.ref (ad 43), .int a1, .int a2]) ++ List.replicate (8 - (lg_sl ([.ref (ad 43), .int a1, .int a2])).length) Slot.unset).toArray = ls at hl ⊢
  exact wX0_isCalm_s0 C n  a1 a2   st res hf s.heap [] ls (lv_sub hl [0, 1, 2] rfl) hP va_S.rf
section
variable {p : Program} {l : Launch} {e : Env} {s : State} {m : MethodId} {args : Array Value} {below : List Frame} {meth : Method} {c : Code} {D : va_G} {G : G3} {ad : Nat → Nat}
def fX0_firstCalm_s102 (n : Nat)    (st : St) : Option (Int32 × St) := some (0, st)
set_option maxHeartbeats 4000000 in
set_option maxRecDepth 100000 in
theorem wX0_firstCalm_s102 (C : Cx p s m args meth c cX0_firstCalm 7 wsL_law RX0 (some .boolean) D G ad) (n : Nat)      (st : St) (res : (Int32 × St))  (hf : fX0_firstCalm_s102 n    st = some res) : At p l e (rmK 5) s m args below meth c D G ad (MQI D G ad below args s res) 7 st [] 102 [] := by
  obtain ⟨hx, hb, hml, hown, hts, hr, hlk, hK, had, hSt⟩ := id C
  intro H locs ls hl hP hS
  unfold fX0_firstCalm_s102 at hf
  refine lv_iconst (v := 0) hx hb dX0_firstCalm_102 (by decide) ?_
  exact g_zret hx hb hr hlk hP hS (Or.inl rfl) dX0_firstCalm_103 hf
def fX0_firstCalm_s96 (n : Nat) (K31 : Int32 → Int32 → Int32 → Int32 → St → Option (Int32 × St))  (v1 : Int32) (v2 : Int32) (v3 : Int32) (v4 : Int32) (st : St) : Option (Int32 × St) := K31 v1 v2 v3 (v4 + 1) st
set_option maxHeartbeats 4000000 in
set_option maxRecDepth 100000 in
theorem wX0_firstCalm_s96 (C : Cx p s m args meth c cX0_firstCalm 7 wsL_law RX0 (some .boolean) D G ad) (n : Nat) (K31 : Int32 → Int32 → Int32 → Int32 → St → Option (Int32 × St))  (v1 : Int32) (v2 : Int32) (v3 : Int32) (v4 : Int32)   (st : St) (res : (Int32 × St)) (hK31 : ∀ (v1 : Int32) (v2 : Int32) (v3 : Int32) (v4 : Int32) (st : St), K31 v1 v2 v3 v4 st = some res → At p l e (rmK 5) s m args below meth c D G ad (MQI D G ad below args s res) 7 st [(0, .ref (ad 43)), (1, .int v1), (2, .int v2), (3, .int v3), (4, .int v4)] 31 []) (hf : fX0_firstCalm_s96 n K31  v1 v2 v3 v4 st = some res) : At p l e (rmK 5) s m args below meth c D G ad (MQI D G ad below args s res) 7 st [(0, .ref (ad 43)), (1, .int v1), (2, .int v2), (3, .int v3), (4, .int v4)] 96 [] := by
  obtain ⟨hx, hb, hml, hown, hts, hr, hlk, hK, had, hSt⟩ := id C
  intro H locs ls hl hP hS
  unfold fX0_firstCalm_s96 at hf
  refine lv_iinc (v := v4 + 1) (lv' := [(4, .int (v4 + 1)), (0, .ref (ad 43)), (1, .int v1), (2, .int v2), (3, .int v3)]) hx hb dX0_firstCalm_96 hl (k := 4) rfl rfl (by decide) rfl (fun ls hl => ?_)
  refine lv_goto (tgt := 31) hx hb dX0_firstCalm_99 (by decide) ?_
  exact hK31 v1 v2 v3 (v4 + 1)  st hf H locs ls (lv_sub hl [1, 2, 3, 4, 0] rfl) hP hS
def fX0_firstCalm_s94 (n : Nat)    (st : St) : Option (Int32 × St) := some (1, st)
set_option maxHeartbeats 4000000 in
set_option maxRecDepth 100000 in
theorem wX0_firstCalm_s94 (C : Cx p s m args meth c cX0_firstCalm 7 wsL_law RX0 (some .boolean) D G ad) (n : Nat)      (st : St) (res : (Int32 × St))  (hf : fX0_firstCalm_s94 n    st = some res) : At p l e (rmK 5) s m args below meth c D G ad (MQI D G ad below args s res) 7 st [] 94 [] := by
  obtain ⟨hx, hb, hml, hown, hts, hr, hlk, hK, had, hSt⟩ := id C
  intro H locs ls hl hP hS
  unfold fX0_firstCalm_s94 at hf
  refine lv_iconst (v := 1) hx hb dX0_firstCalm_94 (by decide) ?_
  exact g_zret hx hb hr hlk hP hS (Or.inr rfl) dX0_firstCalm_95 hf
def fX0_firstCalm_s91 (n : Nat) (K31 : Int32 → Int32 → Int32 → Int32 → St → Option (Int32 × St))  (v1 : Int32) (v2 : Int32) (v3 : Int32) (v4 : Int32) (k0 : Int32) (st : St) : Option (Int32 × St) := if k0 = 0 then fX0_firstCalm_s96 n K31 v1 v2 v3 v4 st else fX0_firstCalm_s94 n st
set_option maxHeartbeats 4000000 in
set_option maxRecDepth 100000 in
theorem wX0_firstCalm_s91 (C : Cx p s m args meth c cX0_firstCalm 7 wsL_law RX0 (some .boolean) D G ad) (n : Nat) (K31 : Int32 → Int32 → Int32 → Int32 → St → Option (Int32 × St))  (v1 : Int32) (v2 : Int32) (v3 : Int32) (v4 : Int32) (k0 : Int32)   (st : St) (res : (Int32 × St)) (hK31 : ∀ (v1 : Int32) (v2 : Int32) (v3 : Int32) (v4 : Int32) (st : St), K31 v1 v2 v3 v4 st = some res → At p l e (rmK 5) s m args below meth c D G ad (MQI D G ad below args s res) 7 st [(0, .ref (ad 43)), (1, .int v1), (2, .int v2), (3, .int v3), (4, .int v4)] 31 []) (hf : fX0_firstCalm_s91 n K31  v1 v2 v3 v4 k0 st = some res) : At p l e (rmK 5) s m args below meth c D G ad (MQI D G ad below args s res) 7 st [(0, .ref (ad 43)), (1, .int v1), (2, .int v2), (3, .int v3), (4, .int v4)] 91 [.int k0] := by
  obtain ⟨hx, hb, hml, hown, hts, hr, hlk, hK, had, hSt⟩ := id C
  intro H locs ls hl hP hS
  unfold fX0_firstCalm_s91 at hf
  refine lv_if_eq (tgt := 96) hx hb dX0_firstCalm_91 (by decide) (fun q => ?_) (fun q => ?_)
  · exact wX0_firstCalm_s96 C n K31 v1 v2 v3 v4 st res hK31 (it hf q) H locs ls (lv_sub hl [0, 1, 2, 3, 4] rfl) hP hS
  · exact wX0_firstCalm_s94 C n st res (ie hf q) H locs ls (lv_sub hl [] rfl) hP hS
def fX0_firstCalm_s85 (n : Nat) (K31 : Int32 → Int32 → Int32 → Int32 → St → Option (Int32 × St))  (v1 : Int32) (v2 : Int32) (v3 : Int32) (v4 : Int32) (st : St) : Option (Int32 × St) := (fX0_isCalm n v1 v2 st).bind (fun q => fX0_firstCalm_s91 n K31 v1 v2 v3 v4 q.1 q.2)
set_option maxHeartbeats 4000000 in
set_option maxRecDepth 100000 in
theorem wX0_firstCalm_s85 (C : Cx p s m args meth c cX0_firstCalm 7 wsL_law RX0 (some .boolean) D G ad) (n : Nat) (K31 : Int32 → Int32 → Int32 → Int32 → St → Option (Int32 × St))  (v1 : Int32) (v2 : Int32) (v3 : Int32) (v4 : Int32)   (st : St) (res : (Int32 × St)) (hK31 : ∀ (v1 : Int32) (v2 : Int32) (v3 : Int32) (v4 : Int32) (st : St), K31 v1 v2 v3 v4 st = some res → At p l e (rmK 5) s m args below meth c D G ad (MQI D G ad below args s res) 7 st [(0, .ref (ad 43)), (1, .int v1), (2, .int v2), (3, .int v3), (4, .int v4)] 31 []) (hf : fX0_firstCalm_s85 n K31  v1 v2 v3 v4 st = some res) : At p l e (rmK 5) s m args below meth c D G ad (MQI D G ad below args s res) 7 st [(0, .ref (ad 43)), (1, .int v1), (2, .int v2), (3, .int v3), (4, .int v4)] 85 [] := by
  obtain ⟨hx, hb, hml, hown, hts, hr, hlk, hK, had, hSt⟩ := id C
  intro H locs ls hl hP hS
  unfold fX0_firstCalm_s85 at hf
  refine lv_aload_n hx hb dX0_firstCalm_85 rfl (lv_at hl 0 rfl) ?_
  refine lv_iload_n hx hb dX0_firstCalm_86 rfl (lv_at hl 1 rfl) ?_
  refine lv_iload_n hx hb dX0_firstCalm_87 rfl (lv_at hl 2 rfl) ?_
  obtain ⟨q, hq, hf⟩ := bd hf
  refine gcV_i (k := 4) (o := 43) (As := [.int v1, .int v2]) (rest := []) hx hb hml hown hts hK hSt hP hS hl.1 (goodV wm_50_0 wm_48_20 wm_48_21 wm_2_23 wm_48_22) okX0_isCalm ct_43 rfl rfl (Nat.le_of_ble_eq_true rfl) (Nat.le_of_ble_eq_true rfl) rfl rfl (Nat.le_of_ble_eq_true rfl) dX0_firstCalm_88 (kX0_isCalm l D G ad had n  v1 v2 st q hq) (fun H locs hP hS => ?_)
  exact wX0_firstCalm_s91 C n K31 v1 v2 v3 v4 q.1 q.2 res hK31 hf H locs ls (lv_sub hl [0, 1, 2, 3, 4] rfl) hP hS
def fX0_firstCalm_s72 (n : Nat) (K31 : Int32 → Int32 → Int32 → Int32 → St → Option (Int32 × St)) (K52 : Int32 → Int32 → Int32 → Int32 → Int32 → Int32 → St → Option (Int32 × St))  (v1 : Int32) (v2 : Int32) (v3 : Int32) (v4 : Int32) (v5 : Int32) (v6 : Int32) (st : St) : Option (Int32 × St) := K52 v1 v2 v3 v4 (v5 / 13) (v6 + (-1)) st
set_option maxHeartbeats 4000000 in
set_option maxRecDepth 100000 in
theorem wX0_firstCalm_s72 (C : Cx p s m args meth c cX0_firstCalm 7 wsL_law RX0 (some .boolean) D G ad) (n : Nat) (K31 : Int32 → Int32 → Int32 → Int32 → St → Option (Int32 × St)) (K52 : Int32 → Int32 → Int32 → Int32 → Int32 → Int32 → St → Option (Int32 × St))  (v1 : Int32) (v2 : Int32) (v3 : Int32) (v4 : Int32) (v5 : Int32) (v6 : Int32)   (st : St) (res : (Int32 × St)) (hK31 : ∀ (v1 : Int32) (v2 : Int32) (v3 : Int32) (v4 : Int32) (st : St), K31 v1 v2 v3 v4 st = some res → At p l e (rmK 5) s m args below meth c D G ad (MQI D G ad below args s res) 7 st [(0, .ref (ad 43)), (1, .int v1), (2, .int v2), (3, .int v3), (4, .int v4)] 31 []) (hK52 : ∀ (v1 : Int32) (v2 : Int32) (v3 : Int32) (v4 : Int32) (v5 : Int32) (v6 : Int32) (st : St), K52 v1 v2 v3 v4 v5 v6 st = some res → At p l e (rmK 5) s m args below meth c D G ad (MQI D G ad below args s res) 7 st [(0, .ref (ad 43)), (1, .int v1), (2, .int v2), (3, .int v3), (4, .int v4), (5, .int v5), (6, .int v6)] 52 []) (hf : fX0_firstCalm_s72 n K31 K52  v1 v2 v3 v4 v5 v6 st = some res) : At p l e (rmK 5) s m args below meth c D G ad (MQI D G ad below args s res) 7 st [(0, .ref (ad 43)), (1, .int v1), (2, .int v2), (3, .int v3), (4, .int v4), (5, .int v5), (6, .int v6)] 72 [] := by
  obtain ⟨hx, hb, hml, hown, hts, hr, hlk, hK, had, hSt⟩ := id C
  intro H locs ls hl hP hS
  unfold fX0_firstCalm_s72 at hf
  refine lv_iload hx hb dX0_firstCalm_72 (lv_at hl 5 rfl) ?_
  refine lv_bipush (v := 13) hx hb dX0_firstCalm_74 (by decide) ?_
  refine lv_idiv hx hb dX0_firstCalm_76 (by decide) ?_
  refine lv_istore (lv' := [(5, .int (v5 / 13)), (0, .ref (ad 43)), (1, .int v1), (2, .int v2), (3, .int v3), (4, .int v4), (6, .int v6)]) hx hb dX0_firstCalm_77 hl (by decide) rfl (fun ls hl => ?_)
  refine lv_iinc (v := v6 + (-1)) (lv' := [(6, .int (v6 + (-1))), (5, .int (v5 / 13)), (0, .ref (ad 43)), (1, .int v1), (2, .int v2), (3, .int v3), (4, .int v4)]) hx hb dX0_firstCalm_79 hl (k := 6) rfl rfl (by decide) rfl (fun ls hl => ?_)
  refine lv_goto (tgt := 52) hx hb dX0_firstCalm_82 (by decide) ?_
  exact hK52 v1 v2 v3 v4 (v5 / 13) (v6 + (-1))  st hf H locs ls (lv_sub hl [2, 3, 4, 5, 6, 1, 0] rfl) hP hS
def fX0_firstCalm_s57 (n : Nat) (K31 : Int32 → Int32 → Int32 → Int32 → St → Option (Int32 × St)) (K52 : Int32 → Int32 → Int32 → Int32 → Int32 → Int32 → St → Option (Int32 × St))  (v1 : Int32) (v2 : Int32) (v3 : Int32) (v4 : Int32) (v5 : Int32) (v6 : Int32) (st : St) : Option (Int32 × St) := if inb v6 8 = true then (fX0_firstCalm_s72 n K31 K52 v1 v2 v3 v4 v5 v6 (setI st 45 v6.toNatClampNeg (v5 - v5 / 13 * 13))) else none
set_option maxHeartbeats 4000000 in
set_option maxRecDepth 100000 in
theorem wX0_firstCalm_s57 (C : Cx p s m args meth c cX0_firstCalm 7 wsL_law RX0 (some .boolean) D G ad) (n : Nat) (K31 : Int32 → Int32 → Int32 → Int32 → St → Option (Int32 × St)) (K52 : Int32 → Int32 → Int32 → Int32 → Int32 → Int32 → St → Option (Int32 × St))  (v1 : Int32) (v2 : Int32) (v3 : Int32) (v4 : Int32) (v5 : Int32) (v6 : Int32)   (st : St) (res : (Int32 × St)) (hK31 : ∀ (v1 : Int32) (v2 : Int32) (v3 : Int32) (v4 : Int32) (st : St), K31 v1 v2 v3 v4 st = some res → At p l e (rmK 5) s m args below meth c D G ad (MQI D G ad below args s res) 7 st [(0, .ref (ad 43)), (1, .int v1), (2, .int v2), (3, .int v3), (4, .int v4)] 31 []) (hK52 : ∀ (v1 : Int32) (v2 : Int32) (v3 : Int32) (v4 : Int32) (v5 : Int32) (v6 : Int32) (st : St), K52 v1 v2 v3 v4 v5 v6 st = some res → At p l e (rmK 5) s m args below meth c D G ad (MQI D G ad below args s res) 7 st [(0, .ref (ad 43)), (1, .int v1), (2, .int v2), (3, .int v3), (4, .int v4), (5, .int v5), (6, .int v6)] 52 []) (hf : fX0_firstCalm_s57 n K31 K52  v1 v2 v3 v4 v5 v6 st = some res) : At p l e (rmK 5) s m args below meth c D G ad (MQI D G ad below args s res) 7 st [(0, .ref (ad 43)), (1, .int v1), (2, .int v2), (3, .int v3), (4, .int v4), (5, .int v5), (6, .int v6)] 57 [] := by
  obtain ⟨hx, hb, hml, hown, hts, hr, hlk, hK, had, hSt⟩ := id C
  intro H locs ls hl hP hS
  unfold fX0_firstCalm_s57 at hf
  refine lv_aload_n hx hb dX0_firstCalm_57 rfl (lv_at hl 0 rfl) ?_
  refine g_getR hx hb hts inlX0 hown hK hP 43 ct_43 rfl 0 (by decide) (hts _ wm_6_7) rfl dX0_firstCalm_58 ?_
  refine g_getR hx hb hts inlX8 hown hK hP 44 ct_44 rfl 0 (by decide) (hts _ wm_49_0) rfl dX0_firstCalm_61 ?_
  refine lv_iload hx hb dX0_firstCalm_64 (lv_at hl 6 rfl) ?_
  refine lv_iload hx hb dX0_firstCalm_66 (lv_at hl 5 rfl) ?_
  refine lv_bipush (v := 13) hx hb dX0_firstCalm_68 (by decide) ?_
  refine lv_irem hx hb dX0_firstCalm_70 (by decide) ?_
  obtain ⟨g1, hf⟩ := gd hf
  refine g_iast hx hb hK had hP hS 45 ct_45 g1 dX0_firstCalm_71 (fun H locs hP hS => ?_)
  exact wX0_firstCalm_s72 C n K31 K52 v1 v2 v3 v4 v5 v6 (setI st 45 v6.toNatClampNeg (v5 - v5 / 13 * 13)) res hK31 hK52 hf H locs ls (lv_sub hl [0, 1, 2, 3, 4, 5, 6] rfl) hP hS
def fX0_firstCalm_s52 (n : Nat) (K31 : Int32 → Int32 → Int32 → Int32 → St → Option (Int32 × St)) (K52 : Int32 → Int32 → Int32 → Int32 → Int32 → Int32 → St → Option (Int32 × St))  (v1 : Int32) (v2 : Int32) (v3 : Int32) (v4 : Int32) (v5 : Int32) (v6 : Int32) (st : St) : Option (Int32 × St) := if v6 < 0 then fX0_firstCalm_s85 n K31 v1 v2 v3 v4 st else fX0_firstCalm_s57 n K31 K52 v1 v2 v3 v4 v5 v6 st
set_option maxHeartbeats 4000000 in
set_option maxRecDepth 100000 in
theorem wX0_firstCalm_s52 (C : Cx p s m args meth c cX0_firstCalm 7 wsL_law RX0 (some .boolean) D G ad) (n : Nat) (K31 : Int32 → Int32 → Int32 → Int32 → St → Option (Int32 × St)) (K52 : Int32 → Int32 → Int32 → Int32 → Int32 → Int32 → St → Option (Int32 × St))  (v1 : Int32) (v2 : Int32) (v3 : Int32) (v4 : Int32) (v5 : Int32) (v6 : Int32)   (st : St) (res : (Int32 × St)) (hK31 : ∀ (v1 : Int32) (v2 : Int32) (v3 : Int32) (v4 : Int32) (st : St), K31 v1 v2 v3 v4 st = some res → At p l e (rmK 5) s m args below meth c D G ad (MQI D G ad below args s res) 7 st [(0, .ref (ad 43)), (1, .int v1), (2, .int v2), (3, .int v3), (4, .int v4)] 31 []) (hK52 : ∀ (v1 : Int32) (v2 : Int32) (v3 : Int32) (v4 : Int32) (v5 : Int32) (v6 : Int32) (st : St), K52 v1 v2 v3 v4 v5 v6 st = some res → At p l e (rmK 5) s m args below meth c D G ad (MQI D G ad below args s res) 7 st [(0, .ref (ad 43)), (1, .int v1), (2, .int v2), (3, .int v3), (4, .int v4), (5, .int v5), (6, .int v6)] 52 []) (hf : fX0_firstCalm_s52 n K31 K52  v1 v2 v3 v4 v5 v6 st = some res) : At p l e (rmK 5) s m args below meth c D G ad (MQI D G ad below args s res) 7 st [(0, .ref (ad 43)), (1, .int v1), (2, .int v2), (3, .int v3), (4, .int v4), (5, .int v5), (6, .int v6)] 52 [] := by
  obtain ⟨hx, hb, hml, hown, hts, hr, hlk, hK, had, hSt⟩ := id C
  intro H locs ls hl hP hS
  unfold fX0_firstCalm_s52 at hf
  refine lv_iload hx hb dX0_firstCalm_52 (lv_at hl 6 rfl) ?_
  refine lv_if_lt (tgt := 85) hx hb dX0_firstCalm_54 (by decide) (fun q => ?_) (fun q => ?_)
  · exact wX0_firstCalm_s85 C n K31 v1 v2 v3 v4 st res hK31 (it hf q) H locs ls (lv_sub hl [0, 1, 2, 3, 4] rfl) hP hS
  · exact wX0_firstCalm_s57 C n K31 K52 v1 v2 v3 v4 v5 v6 st res hK31 hK52 (ie hf q) H locs ls (lv_sub hl [0, 1, 2, 3, 4, 5, 6] rfl) hP hS
def fX0_firstCalm_L52 (n : Nat) (K31 : Int32 → Int32 → Int32 → Int32 → St → Option (Int32 × St))  : Nat → Int32 → Int32 → Int32 → Int32 → Int32 → Int32 → St → Option (Int32 × St)
  | 0, _, _, _, _, _, _, _ => none
  | k + 1, v1, v2, v3, v4, v5, v6, st => fX0_firstCalm_s52 n K31 (fX0_firstCalm_L52 n K31 k)  v1 v2 v3 v4 v5 v6 st
theorem wX0_firstCalm_L52 (C : Cx p s m args meth c cX0_firstCalm 7 wsL_law RX0 (some .boolean) D G ad) (n : Nat) (K31 : Int32 → Int32 → Int32 → Int32 → St → Option (Int32 × St))   (res : (Int32 × St)) (hK31 : ∀ (v1 : Int32) (v2 : Int32) (v3 : Int32) (v4 : Int32) (st : St), K31 v1 v2 v3 v4 st = some res → At p l e (rmK 5) s m args below meth c D G ad (MQI D G ad below args s res) 7 st [(0, .ref (ad 43)), (1, .int v1), (2, .int v2), (3, .int v3), (4, .int v4)] 31 []) : ∀ (k : Nat) (v1 : Int32) (v2 : Int32) (v3 : Int32) (v4 : Int32) (v5 : Int32) (v6 : Int32)  (st : St), fX0_firstCalm_L52 n K31 k v1 v2 v3 v4 v5 v6 st = some res → At p l e (rmK 5) s m args below meth c D G ad (MQI D G ad below args s res) 7 st [(0, .ref (ad 43)), (1, .int v1), (2, .int v2), (3, .int v3), (4, .int v4), (5, .int v5), (6, .int v6)] 52 [] := by
  intro k
  induction k with
  | zero => intro v1 v2 v3 v4 v5 v6  st h; exact absurd h (by intro q; cases q)
  | succ k ih => intro v1 v2 v3 v4 v5 v6  st h; exact wX0_firstCalm_s52 C n K31 (fX0_firstCalm_L52 n K31 k)  v1 v2 v3 v4 v5 v6   st res hK31 ih h
def fX0_firstCalm_s37 (n : Nat) (K31 : Int32 → Int32 → Int32 → Int32 → St → Option (Int32 × St))  (v1 : Int32) (v2 : Int32) (v3 : Int32) (v4 : Int32) (st : St) : Option (Int32 × St) := fX0_firstCalm_L52 n K31 n v1 v2 v3 v4 v4 ((st.1 44 2) - 1) st
set_option maxHeartbeats 4000000 in
set_option maxRecDepth 100000 in
theorem wX0_firstCalm_s37 (C : Cx p s m args meth c cX0_firstCalm 7 wsL_law RX0 (some .boolean) D G ad) (n : Nat) (K31 : Int32 → Int32 → Int32 → Int32 → St → Option (Int32 × St))  (v1 : Int32) (v2 : Int32) (v3 : Int32) (v4 : Int32)   (st : St) (res : (Int32 × St)) (hK31 : ∀ (v1 : Int32) (v2 : Int32) (v3 : Int32) (v4 : Int32) (st : St), K31 v1 v2 v3 v4 st = some res → At p l e (rmK 5) s m args below meth c D G ad (MQI D G ad below args s res) 7 st [(0, .ref (ad 43)), (1, .int v1), (2, .int v2), (3, .int v3), (4, .int v4)] 31 []) (hf : fX0_firstCalm_s37 n K31  v1 v2 v3 v4 st = some res) : At p l e (rmK 5) s m args below meth c D G ad (MQI D G ad below args s res) 7 st [(0, .ref (ad 43)), (1, .int v1), (2, .int v2), (3, .int v3), (4, .int v4)] 37 [] := by
  obtain ⟨hx, hb, hml, hown, hts, hr, hlk, hK, had, hSt⟩ := id C
  intro H locs ls hl hP hS
  unfold fX0_firstCalm_s37 at hf
  refine lv_iload hx hb dX0_firstCalm_37 (lv_at hl 4 rfl) ?_
  refine lv_istore (lv' := [(5, .int v4), (0, .ref (ad 43)), (1, .int v1), (2, .int v2), (3, .int v3), (4, .int v4)]) hx hb dX0_firstCalm_39 hl (by decide) rfl (fun ls hl => ?_)
  refine lv_aload_n hx hb dX0_firstCalm_41 rfl (lv_at hl 1 rfl) ?_
  refine g_getR hx hb hts inlX0 hown hK hP 43 ct_43 rfl 0 (by decide) (hts _ wm_6_7) rfl dX0_firstCalm_42 ?_
  refine g_getI hx hb hts inlX8 hown hK hP 44 ct_44 rfl 2 (by decide) (hts _ wm_47_12) rfl dX0_firstCalm_45 ?_
  refine lv_iconst (v := 1) hx hb dX0_firstCalm_48 (by decide) ?_
  refine lv_isub hx hb dX0_firstCalm_49 ?_
  refine lv_istore (lv' := [(6, .int ((st.1 44 2) - 1)), (5, .int v4), (0, .ref (ad 43)), (1, .int v1), (2, .int v2), (3, .int v3), (4, .int v4)]) hx hb dX0_firstCalm_50 hl (by decide) rfl (fun ls hl => ?_)
  exact wX0_firstCalm_L52 C n K31 res hK31 n v1 v2 v3 v4 v4 ((st.1 44 2) - 1) st hf H locs ls (lv_sub hl [2, 3, 4, 5, 6, 1, 0] rfl) hP hS
def fX0_firstCalm_s31 (n : Nat) (K31 : Int32 → Int32 → Int32 → Int32 → St → Option (Int32 × St))  (v1 : Int32) (v2 : Int32) (v3 : Int32) (v4 : Int32) (st : St) : Option (Int32 × St) := if v3 ≤ v4 then fX0_firstCalm_s102 n st else fX0_firstCalm_s37 n K31 v1 v2 v3 v4 st
set_option maxHeartbeats 4000000 in
set_option maxRecDepth 100000 in
theorem wX0_firstCalm_s31 (C : Cx p s m args meth c cX0_firstCalm 7 wsL_law RX0 (some .boolean) D G ad) (n : Nat) (K31 : Int32 → Int32 → Int32 → Int32 → St → Option (Int32 × St))  (v1 : Int32) (v2 : Int32) (v3 : Int32) (v4 : Int32)   (st : St) (res : (Int32 × St)) (hK31 : ∀ (v1 : Int32) (v2 : Int32) (v3 : Int32) (v4 : Int32) (st : St), K31 v1 v2 v3 v4 st = some res → At p l e (rmK 5) s m args below meth c D G ad (MQI D G ad below args s res) 7 st [(0, .ref (ad 43)), (1, .int v1), (2, .int v2), (3, .int v3), (4, .int v4)] 31 []) (hf : fX0_firstCalm_s31 n K31  v1 v2 v3 v4 st = some res) : At p l e (rmK 5) s m args below meth c D G ad (MQI D G ad below args s res) 7 st [(0, .ref (ad 43)), (1, .int v1), (2, .int v2), (3, .int v3), (4, .int v4)] 31 [] := by
  obtain ⟨hx, hb, hml, hown, hts, hr, hlk, hK, had, hSt⟩ := id C
  intro H locs ls hl hP hS
  unfold fX0_firstCalm_s31 at hf
  refine lv_iload hx hb dX0_firstCalm_31 (lv_at hl 4 rfl) ?_
  refine lv_iload_n hx hb dX0_firstCalm_33 rfl (lv_at hl 3 rfl) ?_
  refine lv_icmp_ge (tgt := 102) hx hb dX0_firstCalm_34 (by decide) (fun q => ?_) (fun q => ?_)
  · exact wX0_firstCalm_s102 C n st res (it hf q) H locs ls (lv_sub hl [] rfl) hP hS
  · exact wX0_firstCalm_s37 C n K31 v1 v2 v3 v4 st res hK31 (ie hf q) H locs ls (lv_sub hl [0, 1, 2, 3, 4] rfl) hP hS
def fX0_firstCalm_L31 (n : Nat)   : Nat → Int32 → Int32 → Int32 → Int32 → St → Option (Int32 × St)
  | 0, _, _, _, _, _ => none
  | k + 1, v1, v2, v3, v4, st => fX0_firstCalm_s31 n (fX0_firstCalm_L31 n k)  v1 v2 v3 v4 st
theorem wX0_firstCalm_L31 (C : Cx p s m args meth c cX0_firstCalm 7 wsL_law RX0 (some .boolean) D G ad) (n : Nat)    (res : (Int32 × St))  : ∀ (k : Nat) (v1 : Int32) (v2 : Int32) (v3 : Int32) (v4 : Int32)  (st : St), fX0_firstCalm_L31 n k v1 v2 v3 v4 st = some res → At p l e (rmK 5) s m args below meth c D G ad (MQI D G ad below args s res) 7 st [(0, .ref (ad 43)), (1, .int v1), (2, .int v2), (3, .int v3), (4, .int v4)] 31 [] := by
  intro k
  induction k with
  | zero => intro v1 v2 v3 v4  st h; exact absurd h (by intro q; cases q)
  | succ k ih => intro v1 v2 v3 v4  st h; exact wX0_firstCalm_s31 C n (fX0_firstCalm_L31 n k)  v1 v2 v3 v4   st res ih h
def fX0_firstCalm_s28 (n : Nat)   (v1 : Int32) (v2 : Int32) (v3 : Int32) (st : St) : Option (Int32 × St) := fX0_firstCalm_L31 n n v1 v2 v3 0 st
set_option maxHeartbeats 4000000 in
set_option maxRecDepth 100000 in
theorem wX0_firstCalm_s28 (C : Cx p s m args meth c cX0_firstCalm 7 wsL_law RX0 (some .boolean) D G ad) (n : Nat)   (v1 : Int32) (v2 : Int32) (v3 : Int32)   (st : St) (res : (Int32 × St))  (hf : fX0_firstCalm_s28 n   v1 v2 v3 st = some res) : At p l e (rmK 5) s m args below meth c D G ad (MQI D G ad below args s res) 7 st [(0, .ref (ad 43)), (1, .int v1), (2, .int v2), (3, .int v3)] 28 [] := by
  obtain ⟨hx, hb, hml, hown, hts, hr, hlk, hK, had, hSt⟩ := id C
  intro H locs ls hl hP hS
  unfold fX0_firstCalm_s28 at hf
  refine lv_iconst (v := 0) hx hb dX0_firstCalm_28 (by decide) ?_
  refine lv_istore (lv' := [(4, .int 0), (0, .ref (ad 43)), (1, .int v1), (2, .int v2), (3, .int v3)]) hx hb dX0_firstCalm_29 hl (by decide) rfl (fun ls hl => ?_)
  exact wX0_firstCalm_L31 C n res n v1 v2 v3 0 st hf H locs ls (lv_sub hl [1, 2, 3, 4, 0] rfl) hP hS
def fX0_firstCalm_s17 (n : Nat) (K5 : Int32 → Int32 → Int32 → Int32 → St → Option (Int32 × St))  (v1 : Int32) (v2 : Int32) (v3 : Int32) (v4 : Int32) (st : St) : Option (Int32 × St) := K5 v1 v2 (v3 * 13) (v4 + 1) st
set_option maxHeartbeats 4000000 in
set_option maxRecDepth 100000 in
theorem wX0_firstCalm_s17 (C : Cx p s m args meth c cX0_firstCalm 7 wsL_law RX0 (some .boolean) D G ad) (n : Nat) (K5 : Int32 → Int32 → Int32 → Int32 → St → Option (Int32 × St))  (v1 : Int32) (v2 : Int32) (v3 : Int32) (v4 : Int32)   (st : St) (res : (Int32 × St)) (hK5 : ∀ (v1 : Int32) (v2 : Int32) (v3 : Int32) (v4 : Int32) (st : St), K5 v1 v2 v3 v4 st = some res → At p l e (rmK 5) s m args below meth c D G ad (MQI D G ad below args s res) 7 st [(0, .ref (ad 43)), (1, .int v1), (2, .int v2), (3, .int v3), (4, .int v4)] 5 []) (hf : fX0_firstCalm_s17 n K5  v1 v2 v3 v4 st = some res) : At p l e (rmK 5) s m args below meth c D G ad (MQI D G ad below args s res) 7 st [(0, .ref (ad 43)), (1, .int v1), (2, .int v2), (3, .int v3), (4, .int v4)] 17 [] := by
  obtain ⟨hx, hb, hml, hown, hts, hr, hlk, hK, had, hSt⟩ := id C
  intro H locs ls hl hP hS
  unfold fX0_firstCalm_s17 at hf
  refine lv_iload_n hx hb dX0_firstCalm_17 rfl (lv_at hl 3 rfl) ?_
  refine lv_bipush (v := 13) hx hb dX0_firstCalm_18 (by decide) ?_
  refine lv_imul hx hb dX0_firstCalm_20 ?_
  refine lv_istore_n (lv' := [(3, .int (v3 * 13)), (0, .ref (ad 43)), (1, .int v1), (2, .int v2), (4, .int v4)]) hx hb dX0_firstCalm_21 rfl hl (by decide) rfl (fun ls hl => ?_)
  refine lv_iinc (v := v4 + 1) (lv' := [(4, .int (v4 + 1)), (3, .int (v3 * 13)), (0, .ref (ad 43)), (1, .int v1), (2, .int v2)]) hx hb dX0_firstCalm_22 hl (k := 4) rfl rfl (by decide) rfl (fun ls hl => ?_)
  refine lv_goto (tgt := 5) hx hb dX0_firstCalm_25 (by decide) ?_
  exact hK5 v1 v2 (v3 * 13) (v4 + 1)  st hf H locs ls (lv_sub hl [2, 3, 4, 1, 0] rfl) hP hS
def fX0_firstCalm_s5 (n : Nat) (K5 : Int32 → Int32 → Int32 → Int32 → St → Option (Int32 × St))  (v1 : Int32) (v2 : Int32) (v3 : Int32) (v4 : Int32) (st : St) : Option (Int32 × St) := if (st.1 44 2) ≤ v4 then fX0_firstCalm_s28 n v1 v2 v3 st else fX0_firstCalm_s17 n K5 v1 v2 v3 v4 st
set_option maxHeartbeats 4000000 in
set_option maxRecDepth 100000 in
theorem wX0_firstCalm_s5 (C : Cx p s m args meth c cX0_firstCalm 7 wsL_law RX0 (some .boolean) D G ad) (n : Nat) (K5 : Int32 → Int32 → Int32 → Int32 → St → Option (Int32 × St))  (v1 : Int32) (v2 : Int32) (v3 : Int32) (v4 : Int32)   (st : St) (res : (Int32 × St)) (hK5 : ∀ (v1 : Int32) (v2 : Int32) (v3 : Int32) (v4 : Int32) (st : St), K5 v1 v2 v3 v4 st = some res → At p l e (rmK 5) s m args below meth c D G ad (MQI D G ad below args s res) 7 st [(0, .ref (ad 43)), (1, .int v1), (2, .int v2), (3, .int v3), (4, .int v4)] 5 []) (hf : fX0_firstCalm_s5 n K5  v1 v2 v3 v4 st = some res) : At p l e (rmK 5) s m args below meth c D G ad (MQI D G ad below args s res) 7 st [(0, .ref (ad 43)), (1, .int v1), (2, .int v2), (3, .int v3), (4, .int v4)] 5 [] := by
  obtain ⟨hx, hb, hml, hown, hts, hr, hlk, hK, had, hSt⟩ := id C
  intro H locs ls hl hP hS
  unfold fX0_firstCalm_s5 at hf
  refine lv_iload hx hb dX0_firstCalm_5 (lv_at hl 4 rfl) ?_
  refine lv_aload_n hx hb dX0_firstCalm_7 rfl (lv_at hl 0 rfl) ?_
  refine g_getR hx hb hts inlX0 hown hK hP 43 ct_43 rfl 0 (by decide) (hts _ wm_6_7) rfl dX0_firstCalm_8 ?_
  refine g_getI hx hb hts inlX8 hown hK hP 44 ct_44 rfl 2 (by decide) (hts _ wm_47_12) rfl dX0_firstCalm_11 ?_
  refine lv_icmp_ge (tgt := 28) hx hb dX0_firstCalm_14 (by decide) (fun q => ?_) (fun q => ?_)
  · exact wX0_firstCalm_s28 C n v1 v2 v3 st res (it hf q) H locs ls (lv_sub hl [0, 1, 2, 3] rfl) hP hS
  · exact wX0_firstCalm_s17 C n K5 v1 v2 v3 v4 st res hK5 (ie hf q) H locs ls (lv_sub hl [0, 1, 2, 3, 4] rfl) hP hS
def fX0_firstCalm_L5 (n : Nat)   : Nat → Int32 → Int32 → Int32 → Int32 → St → Option (Int32 × St)
  | 0, _, _, _, _, _ => none
  | k + 1, v1, v2, v3, v4, st => fX0_firstCalm_s5 n (fX0_firstCalm_L5 n k)  v1 v2 v3 v4 st
theorem wX0_firstCalm_L5 (C : Cx p s m args meth c cX0_firstCalm 7 wsL_law RX0 (some .boolean) D G ad) (n : Nat)    (res : (Int32 × St))  : ∀ (k : Nat) (v1 : Int32) (v2 : Int32) (v3 : Int32) (v4 : Int32)  (st : St), fX0_firstCalm_L5 n k v1 v2 v3 v4 st = some res → At p l e (rmK 5) s m args below meth c D G ad (MQI D G ad below args s res) 7 st [(0, .ref (ad 43)), (1, .int v1), (2, .int v2), (3, .int v3), (4, .int v4)] 5 [] := by
  intro k
  induction k with
  | zero => intro v1 v2 v3 v4  st h; exact absurd h (by intro q; cases q)
  | succ k ih => intro v1 v2 v3 v4  st h; exact wX0_firstCalm_s5 C n (fX0_firstCalm_L5 n k)  v1 v2 v3 v4   st res ih h
def fX0_firstCalm_s0 (n : Nat)   (v1 : Int32) (v2 : Int32) (st : St) : Option (Int32 × St) := fX0_firstCalm_L5 n n v1 v2 1 0 st
set_option maxHeartbeats 4000000 in
set_option maxRecDepth 100000 in
theorem wX0_firstCalm_s0 (C : Cx p s m args meth c cX0_firstCalm 7 wsL_law RX0 (some .boolean) D G ad) (n : Nat)   (v1 : Int32) (v2 : Int32)   (st : St) (res : (Int32 × St))  (hf : fX0_firstCalm_s0 n   v1 v2 st = some res) : At p l e (rmK 5) s m args below meth c D G ad (MQI D G ad below args s res) 7 st [(0, .ref (ad 43)), (1, .int v1), (2, .int v2)] 0 [] := by
  obtain ⟨hx, hb, hml, hown, hts, hr, hlk, hK, had, hSt⟩ := id C
  intro H locs ls hl hP hS
  unfold fX0_firstCalm_s0 at hf
  refine lv_iconst (v := 1) hx hb dX0_firstCalm_0 (by decide) ?_
  refine lv_istore_n (lv' := [(3, .int 1), (0, .ref (ad 43)), (1, .int v1), (2, .int v2)]) hx hb dX0_firstCalm_1 rfl hl (by decide) rfl (fun ls hl => ?_)
  refine lv_iconst (v := 0) hx hb dX0_firstCalm_2 (by decide) ?_
  refine lv_istore (lv' := [(4, .int 0), (3, .int 1), (0, .ref (ad 43)), (1, .int v1), (2, .int v2)]) hx hb dX0_firstCalm_3 hl (by decide) rfl (fun ls hl => ?_)
  exact wX0_firstCalm_L5 C n res n v1 v2 1 0 st hf H locs ls (lv_sub hl [2, 3, 4, 1, 0] rfl) hP hS
def fX0_firstCalm (n : Nat)  (a1 : Int32) (a2 : Int32) (st : St) : Option (Int32 × St) := fX0_firstCalm_s0 n a1 a2 st
theorem okX0_firstCalm : okY yX0_firstCalm RX0 2 := by unfold okY; decide +kernel
end
set_option maxRecDepth 100000 in
theorem kX0_firstCalm (l : Launch) (D : va_G) (G : G3) (ad : Nat → Nat) (had : Adr ad) (n : Nat)   (a1 : Int32) (a2 : Int32) (st : St) (res : (Int32 × St)) (hf : fX0_firstCalm n  a1 a2 st = some res) {sz : Nat} : CtI l yX0_firstCalm (wsU yX0_firstCalm cX0_firstCalm 7 (some .boolean)) (rmK 5) D G ad sz [.ref (ad 43), .int a1, .int a2] st res := by
  refine Met.ofW (cc := cX0_firstCalm) (maxL := 7) (ret := (some .boolean)) (by decide) rfl ?_
  intro p e s m args below meth c s₁ B hml hv
  obtain ⟨rfl, hsz, hP, hK, hSt⟩ := hv
  have hts := atoms_spec (ws := wsU yX0_firstCalm cX0_firstCalm 7 (some .boolean)) B.pre
  have C : Cx p s m _ meth c cX0_firstCalm 7 wsL_law RX0 (some .boolean) D G ad := ⟨B.exec, B.bytes, hml, findClass_of_methodNamed B.named, fun w h => hts w (List.mem_cons_of_mem _ h), B.returns, B.notSynchronized, hK, had, hSt⟩
  subst hsz
  have hl := lv_entry ([.ref (ad 43), .int a1, .int a2]) (n := 7) (Nat.le_of_ble_eq_true rfl)
  rw [lg_entry_eq]
  generalize (lg_sl ([.ref (ad 43), .int a1, .int a2]) ++ List.replicate (7 - (lg_sl ([.ref (ad 43), .int a1, .int a2])).length) Slot.unset).toArray = ls at hl ⊢
  exact wX0_firstCalm_s0 C n  a1 a2   st res hf s.heap [] ls (lv_sub hl [0, 1, 2] rfl) hP va_S.rf
