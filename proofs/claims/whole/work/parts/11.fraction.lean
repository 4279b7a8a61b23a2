theorem wm_2_15 : Cond.initialized RX2 ∈ wsL_law := in_r2 _ (mm_at 15 rfl)
theorem wm_5_17 : Cond.fieldLink RX2 9 "OrderEcho$Fraction" "below" "J" ∈ wsL_law := in_r5 _ (mm_at 17 rfl)
theorem wm_33_6 : Cond.instanceMethod yX2_become ∈ wsL_law := in_r33 _ (mm_at 6 rfl)
theorem wm_33_7 : Cond.selects RX2 yX2_become yX2_become ∈ wsL_law := in_r33 _ (mm_at 7 rfl)
theorem wm_33_8 : Cond.code yX2_become cX2_become 7 none ∈ wsL_law := in_r33 _ (mm_at 8 rfl)
theorem wm_33_9 : Cond.methodLink RX2 15 Lib.MathLoose.abs_long.x ∈ wsL_law := in_r33 _ (mm_at 9 rfl)
theorem wm_33_10 : Cond.static Lib.MathLoose.abs_long.x ∈ wsL_law := in_r33 _ (mm_at 10 rfl)
theorem wm_33_11 : Cond.code Lib.MathLoose.abs_long.x Lib.MathLoose.abs_long.code 2 (some .long) ∈ wsL_law := in_r33 _ (mm_at 11 rfl)
theorem wm_33_12 : Cond.fieldLink RX2 28 "OrderEcho$Fraction" "above" "J" ∈ wsL_law := in_r33 _ (mm_at 12 rfl)
theorem wm_33_13 : Cond.constantLong RX2 31 (1000000000) ∈ wsL_law := in_r33 _ (mm_at 13 rfl)
theorem wm_33_14 : Cond.fieldLink RX2 33 "OrderEcho$Fraction" "spent" "Z" ∈ wsL_law := in_r33 _ (mm_at 14 rfl)
theorem wm_33_15 : Cond.methodLink RX2 21 yX2_commonDivisor ∈ wsL_law := in_r33 _ (mm_at 15 rfl)
theorem wm_33_16 : Cond.static yX2_commonDivisor ∈ wsL_law := in_r33 _ (mm_at 16 rfl)
theorem wm_33_17 : Cond.code yX2_commonDivisor cX2_commonDivisor 11 (some .long) ∈ wsL_law := in_r33 _ (mm_at 17 rfl)
theorem wm_33_18 : Cond.methodLink RX2 25 yX2_spend ∈ wsL_law := in_r33 _ (mm_at 18 rfl)
theorem wm_33_19 : Cond.instanceMethod yX2_spend ∈ wsL_law := in_r33 _ (mm_at 19 rfl)
theorem wm_33_20 : Cond.selects RX2 yX2_spend yX2_spend ∈ wsL_law := in_r33 _ (mm_at 20 rfl)
theorem wm_33_21 : Cond.code yX2_spend cX2_spend 1 none ∈ wsL_law := in_r33 _ (mm_at 21 rfl)
theorem wm_34_2 : Cond.constantLong RX2 41 (-9223372036854775807) ∈ wsL_law := in_r34 _ (mm_at 2 rfl)
theorem wm_36_0 : Cond.methodLink RX2 37 yX2_become ∈ wsL_law := in_r36 _ (mm_at 0 rfl)
section
variable {p : Program} {l : Launch} {e : Env} {s : State} {m : MethodId} {args : Array Value} {below : List Frame} {meth : Method} {c : Code} {D : va_G} {G : G3} {ad : Nat → Nat}
def fX2_commonDivisor_s45 (n : Nat)   (v4 : Int64) (st : St) : Option (Int64 × St) := some (v4, st)
set_option maxHeartbeats 4000000 in
set_option maxRecDepth 100000 in
theorem wX2_commonDivisor_s45 (C : Cx p s m args meth c cX2_commonDivisor 11 wsL_law RX2 (some .long) D G ad) (n : Nat)   (v4 : Int64)   (st : St) (res : (Int64 × St))  (hf : fX2_commonDivisor_s45 n   v4 st = some res) : At p l e (rmK 0) s m args below meth c D G ad (MQJ D G ad below args s res) 11 st [(4, .long v4)] 45 [] := by
  obtain ⟨hx, hb, hml, hown, hts, hr, hlk, hK, had, hSt⟩ := id C
  intro H locs ls hl hP hS
  unfold fX2_commonDivisor_s45 at hf
  refine lv_lload hx hb dX2_commonDivisor_45 (lv_at hl 0 rfl) ?_
  exact g_lret hx hb hr hlk hP hS dX2_commonDivisor_47 hf
def fX2_commonDivisor_s24 (n : Nat) (K9 : Int64 → Int64 → Int32 → St → Option (Int64 × St))  (v4 : Int64) (v6 : Int64) (v8 : Int32) (st : St) : Option (Int64 × St) := if v6 = 0 then none else (K9 v6 (v4 - v4 / v6 * v6) (v8 + 1) st)
set_option maxHeartbeats 4000000 in
set_option maxRecDepth 100000 in
theorem wX2_commonDivisor_s24 (C : Cx p s m args meth c cX2_commonDivisor 11 wsL_law RX2 (some .long) D G ad) (n : Nat) (K9 : Int64 → Int64 → Int32 → St → Option (Int64 × St))  (v4 : Int64) (v6 : Int64) (v8 : Int32)   (st : St) (res : (Int64 × St)) (hK9 : ∀ (v4 : Int64) (v6 : Int64) (v8 : Int32) (st : St), K9 v4 v6 v8 st = some res → At p l e (rmK 0) s m args below meth c D G ad (MQJ D G ad below args s res) 11 st [(4, .long v4), (6, .long v6), (8, .int v8)] 9 []) (hf : fX2_commonDivisor_s24 n K9  v4 v6 v8 st = some res) : At p l e (rmK 0) s m args below meth c D G ad (MQJ D G ad below args s res) 11 st [(4, .long v4), (6, .long v6), (8, .int v8)] 24 [] := by
  obtain ⟨hx, hb, hml, hown, hts, hr, hlk, hK, had, hSt⟩ := id C
  intro H locs ls hl hP hS
  unfold fX2_commonDivisor_s24 at hf
  refine lv_lload hx hb dX2_commonDivisor_24 (lv_at hl 0 rfl) ?_
  refine lv_lload hx hb dX2_commonDivisor_26 (lv_at hl 1 rfl) ?_
  obtain ⟨g1, hf⟩ := gn hf
  refine lv_lrem hx hb dX2_commonDivisor_28 g1 ?_
  refine lv_lstore (lv' := [(9, .long (v4 - v4 / v6 * v6)), (4, .long v4), (6, .long v6), (8, .int v8)]) hx hb dX2_commonDivisor_29 hl (by decide) rfl (fun ls hl => ?_)
  refine lv_lload hx hb dX2_commonDivisor_31 (lv_at hl 2 rfl) ?_
  refine lv_lstore (lv' := [(4, .long v6), (9, .long (v4 - v4 / v6 * v6)), (6, .long v6), (8, .int v8)]) hx hb dX2_commonDivisor_33 hl (by decide) rfl (fun ls hl => ?_)
  refine lv_lload hx hb dX2_commonDivisor_35 (lv_at hl 1 rfl) ?_
  refine lv_lstore (lv' := [(6, .long (v4 - v4 / v6 * v6)), (4, .long v6), (9, .long (v4 - v4 / v6 * v6)), (8, .int v8)]) hx hb dX2_commonDivisor_37 hl (by decide) rfl (fun ls hl => ?_)
  refine lv_iinc (v := v8 + 1) (lv' := [(8, .int (v8 + 1)), (6, .long (v4 - v4 / v6 * v6)), (4, .long v6), (9, .long (v4 - v4 / v6 * v6))]) hx hb dX2_commonDivisor_39 hl (k := 3) rfl rfl (by decide) rfl (fun ls hl => ?_)
  refine lv_goto (tgt := 9) hx hb dX2_commonDivisor_42 (by decide) ?_
  exact hK9 v6 (v4 - v4 / v6 * v6) (v8 + 1)  st hf H locs ls (lv_sub hl [2, 1, 0] rfl) hP hS
def fX2_commonDivisor_s17 (n : Nat) (K9 : Int64 → Int64 → Int32 → St → Option (Int64 × St))  (v4 : Int64) (v6 : Int64) (v8 : Int32) (st : St) : Option (Int64 × St) := if v6 = 0 then fX2_commonDivisor_s45 n v4 st else fX2_commonDivisor_s24 n K9 v4 v6 v8 st
set_option maxHeartbeats 4000000 in
set_option maxRecDepth 100000 in
theorem wX2_commonDivisor_s17 (C : Cx p s m args meth c cX2_commonDivisor 11 wsL_law RX2 (some .long) D G ad) (n : Nat) (K9 : Int64 → Int64 → Int32 → St → Option (Int64 × St))  (v4 : Int64) (v6 : Int64) (v8 : Int32)   (st : St) (res : (Int64 × St)) (hK9 : ∀ (v4 : Int64) (v6 : Int64) (v8 : Int32) (st : St), K9 v4 v6 v8 st = some res → At p l e (rmK 0) s m args below meth c D G ad (MQJ D G ad below args s res) 11 st [(4, .long v4), (6, .long v6), (8, .int v8)] 9 []) (hf : fX2_commonDivisor_s17 n K9  v4 v6 v8 st = some res) : At p l e (rmK 0) s m args below meth c D G ad (MQJ D G ad below args s res) 11 st [(4, .long v4), (6, .long v6), (8, .int v8)] 17 [] := by
  obtain ⟨hx, hb, hml, hown, hts, hr, hlk, hK, had, hSt⟩ := id C
  intro H locs ls hl hP hS
  unfold fX2_commonDivisor_s17 at hf
  refine lv_lload hx hb dX2_commonDivisor_17 (lv_at hl 1 rfl) ?_
  refine lv_lconst (v := 0) hx hb dX2_commonDivisor_19 (by decide) ?_
  refine g_lcmp_eq (tgt := 45) hx hb dX2_commonDivisor_20 dX2_commonDivisor_21 (by decide) (fun q => ?_) (fun q => ?_)
  · exact wX2_commonDivisor_s45 C n v4 st res (it hf q) H locs ls (lv_sub hl [0] rfl) hP hS
  · exact wX2_commonDivisor_s24 C n K9 v4 v6 v8 st res hK9 (ie hf q) H locs ls (lv_sub hl [0, 1, 2] rfl) hP hS
def fX2_commonDivisor_s9 (n : Nat) (K9 : Int64 → Int64 → Int32 → St → Option (Int64 × St))  (v4 : Int64) (v6 : Int64) (v8 : Int32) (st : St) : Option (Int64 × St) := if 1000 ≤ v8 then fX2_commonDivisor_s45 n v4 st else fX2_commonDivisor_s17 n K9 v4 v6 v8 st
set_option maxHeartbeats 4000000 in
set_option maxRecDepth 100000 in
theorem wX2_commonDivisor_s9 (C : Cx p s m args meth c cX2_commonDivisor 11 wsL_law RX2 (some .long) D G ad) (n : Nat) (K9 : Int64 → Int64 → Int32 → St → Option (Int64 × St))  (v4 : Int64) (v6 : Int64) (v8 : Int32)   (st : St) (res : (Int64 × St)) (hK9 : ∀ (v4 : Int64) (v6 : Int64) (v8 : Int32) (st : St), K9 v4 v6 v8 st = some res → At p l e (rmK 0) s m args below meth c D G ad (MQJ D G ad below args s res) 11 st [(4, .long v4), (6, .long v6), (8, .int v8)] 9 []) (hf : fX2_commonDivisor_s9 n K9  v4 v6 v8 st = some res) : At p l e (rmK 0) s m args below meth c D G ad (MQJ D G ad below args s res) 11 st [(4, .long v4), (6, .long v6), (8, .int v8)] 9 [] := by
  obtain ⟨hx, hb, hml, hown, hts, hr, hlk, hK, had, hSt⟩ := id C
  intro H locs ls hl hP hS
  unfold fX2_commonDivisor_s9 at hf
  refine lv_iload hx hb dX2_commonDivisor_9 (lv_at hl 2 rfl) ?_
  refine lv_sipush (v := 1000) hx hb dX2_commonDivisor_11 (by decide) ?_
  refine lv_icmp_ge (tgt := 45) hx hb dX2_commonDivisor_14 (by decide) (fun q => ?_) (fun q => ?_)
  · exact wX2_commonDivisor_s45 C n v4 st res (it hf q) H locs ls (lv_sub hl [0] rfl) hP hS
  · exact wX2_commonDivisor_s17 C n K9 v4 v6 v8 st res hK9 (ie hf q) H locs ls (lv_sub hl [0, 1, 2] rfl) hP hS
def fX2_commonDivisor_L9 (n : Nat)   : Nat → Int64 → Int64 → Int32 → St → Option (Int64 × St)
  | 0, _, _, _, _ => none
  | k + 1, v4, v6, v8, st => fX2_commonDivisor_s9 n (fX2_commonDivisor_L9 n k)  v4 v6 v8 st
theorem wX2_commonDivisor_L9 (C : Cx p s m args meth c cX2_commonDivisor 11 wsL_law RX2 (some .long) D G ad) (n : Nat)    (res : (Int64 × St))  : ∀ (k : Nat) (v4 : Int64) (v6 : Int64) (v8 : Int32)  (st : St), fX2_commonDivisor_L9 n k v4 v6 v8 st = some res → At p l e (rmK 0) s m args below meth c D G ad (MQJ D G ad below args s res) 11 st [(4, .long v4), (6, .long v6), (8, .int v8)] 9 [] := by
  intro k
  induction k with
  | zero => intro v4 v6 v8  st h; exact absurd h (by intro q; cases q)
  | succ k ih => intro v4 v6 v8  st h; exact wX2_commonDivisor_s9 C n (fX2_commonDivisor_L9 n k)  v4 v6 v8   st res ih h
def fX2_commonDivisor_s0 (n : Nat)   (v0 : Int64) (v2 : Int64) (st : St) : Option (Int64 × St) := fX2_commonDivisor_L9 n n v0 v2 0 st
set_option maxHeartbeats 4000000 in
set_option maxRecDepth 100000 in
theorem wX2_commonDivisor_s0 (C : Cx p s m args meth c cX2_commonDivisor 11 wsL_law RX2 (some .long) D G ad) (n : Nat)   (v0 : Int64) (v2 : Int64)   (st : St) (res : (Int64 × St))  (hf : fX2_commonDivisor_s0 n   v0 v2 st = some res) : At p l e (rmK 0) s m args below meth c D G ad (MQJ D G ad below args s res) 11 st [(0, .long v0), (2, .long v2)] 0 [] := by
  obtain ⟨hx, hb, hml, hown, hts, hr, hlk, hK, had, hSt⟩ := id C
  intro H locs ls hl hP hS
  unfold fX2_commonDivisor_s0 at hf
  refine lv_lload_n hx hb dX2_commonDivisor_0 rfl (lv_at hl 0 rfl) ?_
  refine lv_lstore (lv' := [(4, .long v0), (0, .long v0), (2, .long v2)]) hx hb dX2_commonDivisor_1 hl (by decide) rfl (fun ls hl => ?_)
  refine lv_lload_n hx hb dX2_commonDivisor_3 rfl (lv_at hl 2 rfl) ?_
  refine lv_lstore (lv' := [(6, .long v2), (4, .long v0), (0, .long v0), (2, .long v2)]) hx hb dX2_commonDivisor_4 hl (by decide) rfl (fun ls hl => ?_)
  refine lv_iconst (v := 0) hx hb dX2_commonDivisor_6 (by decide) ?_
  refine lv_istore (lv' := [(8, .int 0), (6, .long v2), (4, .long v0), (0, .long v0), (2, .long v2)]) hx hb dX2_commonDivisor_7 hl (by decide) rfl (fun ls hl => ?_)
  exact wX2_commonDivisor_L9 C n res n v0 v2 0 st hf H locs ls (lv_sub hl [2, 1, 0] rfl) hP hS
def fX2_commonDivisor (n : Nat)  (a0 : Int64) (a2 : Int64) (st : St) : Option (Int64 × St) := fX2_commonDivisor_s0 n a0 a2 st
theorem okX2_commonDivisor : okY yX2_commonDivisor RX2 2 := by unfold okY; decide +kernel
end
set_option maxRecDepth 100000 in
theorem kX2_commonDivisor (l : Launch) (D : va_G) (G : G3) (ad : Nat → Nat) (had : Adr ad) (n : Nat)   (a0 : Int64) (a2 : Int64) (st : St) (res : (Int64 × St)) (hf : fX2_commonDivisor n  a0 a2 st = some res) {sz : Nat} : CtJ l yX2_commonDivisor (wsU yX2_commonDivisor cX2_commonDivisor 11 (some .long)) (rmK 0) D G ad sz [.long a0, .long a2] st res := by
  refine Met.ofW (cc := cX2_commonDivisor) (maxL := 11) (ret := (some .long)) (by decide) rfl ?_
  intro p e s m args below meth c s₁ B hml hv
  obtain ⟨rfl, hsz, hP, hK, hSt⟩ := hv
  have hts := atoms_spec (ws := wsU yX2_commonDivisor cX2_commonDivisor 11 (some .long)) B.pre
  have C : Cx p s m _ meth c cX2_commonDivisor 11 wsL_law RX2 (some .long) D G ad := ⟨B.exec, B.bytes, hml, findClass_of_methodNamed B.named, fun w h => hts w (List.mem_cons_of_mem _ h), B.returns, B.notSynchronized, hK, had, hSt⟩
  subst hsz
  have hl := lv_entry ([.long a0, .long a2]) (n := 11) (Nat.le_of_ble_eq_true rfl)
  rw [lg_entry_eq]
  generalize (lg_sl ([.long a0, .long a2]) ++ List.replicate (11 - (lg_sl ([.long a0, .long a2])).length) Slot.unset).toArray = ls at hl ⊢
  exact wX2_commonDivisor_s0 C n  a0 a2   st res hf s.heap [] ls (lv_sub hl [0, 1] rfl) hP va_S.rf
section
variable {p : Program} {l : Launch} {e : Env} {s : State} {m : MethodId} {args : Array Value} {below : List Frame} {meth : Method} {c : Code} {D : va_G} {G : G3} {ad : Nat → Nat}
def fX2_spend_s15 (n : Nat)  (b : Nat)  (st : St) : Option (Unit × St) := some ((), st)
set_option maxHeartbeats 4000000 in
set_option maxRecDepth 100000 in
theorem wX2_spend_s15 (C : Cx p s m args meth c cX2_spend 1 wsL_law RX2 none D G ad) (n : Nat)  (b : Nat)  (ib : isFr b)  (st : St) (res : (Unit × St))  (hf : fX2_spend_s15 n  b  st = some res) : At p l e (rmK 0) s m args below meth c D G ad (MQV D G ad below args s res) 1 st [] 15 [] := by
  obtain ⟨hx, hb, hml, hown, hts, hr, hlk, hK, had, hSt⟩ := id C
  intro H locs ls hl hP hS
  unfold fX2_spend_s15 at hf
  exact g_vret hx hb hr hlk hP hS dX2_spend_15 hf
def fX2_spend_s10 (n : Nat)  (b : Nat)  (st : St) : Option (Unit × St) := fX2_spend_s15 n b (setI st b 2 1)
set_option maxHeartbeats 4000000 in
set_option maxRecDepth 100000 in
theorem wX2_spend_s10 (C : Cx p s m args meth c cX2_spend 1 wsL_law RX2 none D G ad) (n : Nat)  (b : Nat)  (ib : isFr b)  (st : St) (res : (Unit × St))  (hf : fX2_spend_s10 n  b  st = some res) : At p l e (rmK 0) s m args below meth c D G ad (MQV D G ad below args s res) 1 st [(0, .ref (ad b))] 10 [] := by
  obtain ⟨hx, hb, hml, hown, hts, hr, hlk, hK, had, hSt⟩ := id C
  intro H locs ls hl hP hS
  unfold fX2_spend_s10 at hf
  refine lv_aload_n hx hb dX2_spend_10 rfl (lv_at hl 0 rfl) ?_
  refine lv_iconst (v := 1) hx hb dX2_spend_11 (by decide) ?_
  refine g_putI hx hb hts inlX2 tyX2_ok nmX2 hown hK had hP hS b (fr_0 ib) rfl 2 (by decide) (hts _ wm_33_14) rfl rfl rfl rfl rfl dX2_spend_12 (fun H locs hP hS => ?_)
  exact wX2_spend_s15 C n b ib (setI st b 2 1) res hf H locs ls (lv_sub hl [] rfl) hP hS
def fX2_spend_s5 (n : Nat)  (b : Nat)  (st : St) : Option (Unit × St) := fX2_spend_s10 n b (setJ st b 1 1)
set_option maxHeartbeats 4000000 in
set_option maxRecDepth 100000 in
theorem wX2_spend_s5 (C : Cx p s m args meth c cX2_spend 1 wsL_law RX2 none D G ad) (n : Nat)  (b : Nat)  (ib : isFr b)  (st : St) (res : (Unit × St))  (hf : fX2_spend_s5 n  b  st = some res) : At p l e (rmK 0) s m args below meth c D G ad (MQV D G ad below args s res) 1 st [(0, .ref (ad b))] 5 [] := by
  obtain ⟨hx, hb, hml, hown, hts, hr, hlk, hK, had, hSt⟩ := id C
  intro H locs ls hl hP hS
  unfold fX2_spend_s5 at hf
  refine lv_aload_n hx hb dX2_spend_5 rfl (lv_at hl 0 rfl) ?_
  refine lv_lconst (v := 1) hx hb dX2_spend_6 (by decide) ?_
  refine g_putJ hx hb hts inlX2 tyX2_ok nmX2 hown hK had hP hS b (fr_0 ib) rfl 1 (by decide) (hts _ wm_5_17) rfl rfl rfl dX2_spend_7 (fun H locs hP hS => ?_)
  exact wX2_spend_s10 C n b ib (setJ st b 1 1) res hf H locs ls (lv_sub hl [0] rfl) hP hS
def fX2_spend_s0 (n : Nat)  (b : Nat)  (st : St) : Option (Unit × St) := fX2_spend_s5 n b (setJ st b 0 0)
set_option maxHeartbeats 4000000 in
set_option maxRecDepth 100000 in
theorem wX2_spend_s0 (C : Cx p s m args meth c cX2_spend 1 wsL_law RX2 none D G ad) (n : Nat)  (b : Nat)  (ib : isFr b)  (st : St) (res : (Unit × St))  (hf : fX2_spend_s0 n  b  st = some res) : At p l e (rmK 0) s m args below meth c D G ad (MQV D G ad below args s res) 1 st [(0, .ref (ad b))] 0 [] := by
  obtain ⟨hx, hb, hml, hown, hts, hr, hlk, hK, had, hSt⟩ := id C
  intro H locs ls hl hP hS
  unfold fX2_spend_s0 at hf
  refine lv_aload_n hx hb dX2_spend_0 rfl (lv_at hl 0 rfl) ?_
  refine lv_lconst (v := 0) hx hb dX2_spend_1 (by decide) ?_
  refine g_putJ hx hb hts inlX2 tyX2_ok nmX2 hown hK had hP hS b (fr_0 ib) rfl 0 (by decide) (hts _ wm_33_12) rfl rfl rfl dX2_spend_2 (fun H locs hP hS => ?_)
  exact wX2_spend_s5 C n b ib (setJ st b 0 0) res hf H locs ls (lv_sub hl [0] rfl) hP hS
def fX2_spend (n : Nat) (b : Nat)  (st : St) : Option (Unit × St) := fX2_spend_s0 n b st
theorem okX2_spend : okY yX2_spend RX2 0 := by unfold okY; decide +kernel
end
set_option maxRecDepth 100000 in
theorem kX2_spend (l : Launch) (D : va_G) (G : G3) (ad : Nat → Nat) (had : Adr ad) (n : Nat) (b : Nat) (ib : isFr b)  (st : St) (res : (Unit × St)) (hf : fX2_spend n b  st = some res) {sz : Nat} : CtV l yX2_spend (wsU yX2_spend cX2_spend 1 none) (rmK 0) D G ad sz [.ref (ad b)] st res := by
  refine Met.ofW (cc := cX2_spend) (maxL := 1) (ret := none) (by decide) rfl ?_
  intro p e s m args below meth c s₁ B hml hv
  obtain ⟨rfl, hsz, hP, hK, hSt⟩ := hv
  have hts := atoms_spec (ws := wsU yX2_spend cX2_spend 1 none) B.pre
  have C : Cx p s m _ meth c cX2_spend 1 wsL_law RX2 none D G ad := ⟨B.exec, B.bytes, hml, findClass_of_methodNamed B.named, fun w h => hts w (List.mem_cons_of_mem _ h), B.returns, B.notSynchronized, hK, had, hSt⟩
  subst hsz
  have hl := lv_entry ([.ref (ad b)]) (n := 1) (Nat.le_of_ble_eq_true rfl)
  rw [lg_entry_eq]
  generalize (lg_sl ([.ref (ad b)]) ++ List.replicate (1 - (lg_sl ([.ref (ad b)])).length) Slot.unset).toArray = ls at hl ⊢
  exact wX2_spend_s0 C n b  ib  st res hf s.heap [] ls (lv_sub hl [0] rfl) hP va_S.rf
section
variable {p : Program} {l : Launch} {e : Env} {s : State} {m : MethodId} {args : Array Value} {below : List Frame} {meth : Method} {c : Code} {D : va_G} {G : G3} {ad : Nat → Nat}
def fX2_become_s30 (n : Nat)  (b : Nat)  (st : St) : Option (Unit × St) := some ((), st)
set_option maxHeartbeats 4000000 in
set_option maxRecDepth 100000 in
theorem wX2_become_s30 (C : Cx p s m args meth c cX2_become 7 wsL_law RX2 none D G ad) (n : Nat)  (b : Nat)  (ib : isFr b)  (st : St) (res : (Unit × St))  (hf : fX2_become_s30 n  b  st = some res) : At p l e (rmK 1) s m args below meth c D G ad (MQV D G ad below args s res) 7 st [] 30 [] := by
  obtain ⟨hx, hb, hml, hown, hts, hr, hlk, hK, had, hSt⟩ := id C
  intro H locs ls hl hP hS
  unfold fX2_become_s30 at hf
  exact g_vret hx hb hr hlk hP hS dX2_become_30 hf
def fX2_become_s26 (n : Nat)  (b : Nat)  (st : St) : Option (Unit × St) := (fX2_spend n b st).bind (fun q => fX2_become_s30 n b q.2)
set_option maxHeartbeats 4000000 in
set_option maxRecDepth 100000 in
theorem wX2_become_s26 (C : Cx p s m args meth c cX2_become 7 wsL_law RX2 none D G ad) (n : Nat)  (b : Nat)  (ib : isFr b)  (st : St) (res : (Unit × St))  (hf : fX2_become_s26 n  b  st = some res) : At p l e (rmK 1) s m args below meth c D G ad (MQV D G ad below args s res) 7 st [(0, .ref (ad b))] 26 [] := by
  obtain ⟨hx, hb, hml, hown, hts, hr, hlk, hK, had, hSt⟩ := id C
  intro H locs ls hl hP hS
  unfold fX2_become_s26 at hf
  refine lv_aload_n hx hb dX2_become_26 rfl (lv_at hl 0 rfl) ?_
  obtain ⟨q, hq, hf⟩ := bd hf
  refine gcV_v (k := 0) (o := b) (As := []) (rest := []) hx hb hml hown hts hK hSt hP hS hl.1 (goodV wm_33_18 wm_33_19 wm_33_20 wm_2_15 wm_33_21) okX2_spend (fr_0 ib) rfl rfl (Nat.le_of_ble_eq_true rfl) (Nat.le_of_ble_eq_true rfl) rfl rfl (Nat.le_of_ble_eq_true rfl) dX2_become_27 (kX2_spend l D G ad had n b ib  st q hq) (fun H locs hP hS => ?_)
  exact wX2_become_s30 C n b ib q.2 res hf H locs ls (lv_sub hl [] rfl) hP hS
def fX2_become_s95 (n : Nat)  (b : Nat)  (st : St) : Option (Unit × St) := some ((), st)
set_option maxHeartbeats 4000000 in
set_option maxRecDepth 100000 in
theorem wX2_become_s95 (C : Cx p s m args meth c cX2_become 7 wsL_law RX2 none D G ad) (n : Nat)  (b : Nat)  (ib : isFr b)  (st : St) (res : (Unit × St))  (hf : fX2_become_s95 n  b  st = some res) : At p l e (rmK 1) s m args below meth c D G ad (MQV D G ad below args s res) 7 st [] 95 [] := by
  obtain ⟨hx, hb, hml, hown, hts, hr, hlk, hK, had, hSt⟩ := id C
  intro H locs ls hl hP hS
  unfold fX2_become_s95 at hf
  exact g_vret hx hb hr hlk hP hS dX2_become_95 hf
def fX2_become_s92 (n : Nat)  (b : Nat) (k1 : Int32) (st : St) : Option (Unit × St) := if zb k1 = true then (fX2_become_s95 n b (setI st b 2 k1)) else none
set_option maxHeartbeats 4000000 in
set_option maxRecDepth 100000 in
theorem wX2_become_s92 (C : Cx p s m args meth c cX2_become 7 wsL_law RX2 none D G ad) (n : Nat)  (b : Nat) (k1 : Int32) (ib : isFr b)  (st : St) (res : (Unit × St))  (hf : fX2_become_s92 n  b k1 st = some res) : At p l e (rmK 1) s m args below meth c D G ad (MQV D G ad below args s res) 7 st [] 92 [.int k1, .ref (ad b)] := by
  obtain ⟨hx, hb, hml, hown, hts, hr, hlk, hK, had, hSt⟩ := id C
  intro H locs ls hl hP hS
  unfold fX2_become_s92 at hf
  obtain ⟨gz, hf⟩ := gd hf
  refine g_putI hx hb hts inlX2 tyX2_ok nmX2 hown hK had hP hS b (fr_0 ib) rfl 2 (by decide) (hts _ wm_33_14) rfl rfl rfl (zb_n gz) (zb_f gz) dX2_become_92 (fun H locs hP hS => ?_)
  exact wX2_become_s95 C n b ib (setI st b 2 k1) res hf H locs ls (lv_sub hl [] rfl) hP hS
def fX2_become_s87 (n : Nat)  (b : Nat)  (st : St) : Option (Unit × St) := fX2_become_s92 n b 1 st
set_option maxHeartbeats 4000000 in
set_option maxRecDepth 100000 in
theorem wX2_become_s87 (C : Cx p s m args meth c cX2_become 7 wsL_law RX2 none D G ad) (n : Nat)  (b : Nat)  (ib : isFr b)  (st : St) (res : (Unit × St))  (hf : fX2_become_s87 n  b  st = some res) : At p l e (rmK 1) s m args below meth c D G ad (MQV D G ad below args s res) 7 st [] 87 [.ref (ad b)] := by
  obtain ⟨hx, hb, hml, hown, hts, hr, hlk, hK, had, hSt⟩ := id C
  intro H locs ls hl hP hS
  unfold fX2_become_s87 at hf
  refine lv_iconst (v := 1) hx hb dX2_become_87 (by decide) ?_
  refine lv_goto (tgt := 92) hx hb dX2_become_88 (by decide) ?_
  exact wX2_become_s92 C n b 1 ib st res hf H locs ls (lv_sub hl [] rfl) hP hS
def fX2_become_s91 (n : Nat)  (b : Nat)  (st : St) : Option (Unit × St) := fX2_become_s92 n b 0 st
set_option maxHeartbeats 4000000 in
set_option maxRecDepth 100000 in
theorem wX2_become_s91 (C : Cx p s m args meth c cX2_become 7 wsL_law RX2 none D G ad) (n : Nat)  (b : Nat)  (ib : isFr b)  (st : St) (res : (Unit × St))  (hf : fX2_become_s91 n  b  st = some res) : At p l e (rmK 1) s m args below meth c D G ad (MQV D G ad below args s res) 7 st [] 91 [.ref (ad b)] := by
  obtain ⟨hx, hb, hml, hown, hts, hr, hlk, hK, had, hSt⟩ := id C
  intro H locs ls hl hP hS
  unfold fX2_become_s91 at hf
  refine lv_iconst (v := 0) hx hb dX2_become_91 (by decide) ?_
  exact wX2_become_s92 C n b 0 ib st res hf H locs ls (lv_sub hl [] rfl) hP hS
def fX2_become_s76 (n : Nat)  (b : Nat)  (st : St) : Option (Unit × St) := if (st.2 b 1) ≤ 1000000000 then fX2_become_s91 n b st else fX2_become_s87 n b st
set_option maxHeartbeats 4000000 in
set_option maxRecDepth 100000 in
theorem wX2_become_s76 (C : Cx p s m args meth c cX2_become 7 wsL_law RX2 none D G ad) (n : Nat)  (b : Nat)  (ib : isFr b)  (st : St) (res : (Unit × St))  (hf : fX2_become_s76 n  b  st = some res) : At p l e (rmK 1) s m args below meth c D G ad (MQV D G ad below args s res) 7 st [(0, .ref (ad b))] 76 [.ref (ad b)] := by
  obtain ⟨hx, hb, hml, hown, hts, hr, hlk, hK, had, hSt⟩ := id C
  intro H locs ls hl hP hS
  unfold fX2_become_s76 at hf
  refine lv_aload_n hx hb dX2_become_76 rfl (lv_at hl 0 rfl) ?_
  refine g_getJ hx hb hts inlX2 hown hK hP b (fr_0 ib) rfl 1 (by decide) (hts _ wm_5_17) rfl dX2_become_77 ?_
  refine lv_ldc2 hx hb hown (hts _ wm_33_13) dX2_become_80 ?_
  refine g_lcmp_le (tgt := 91) hx hb dX2_become_83 dX2_become_84 (by decide) (fun q => ?_) (fun q => ?_)
  · exact wX2_become_s91 C n b ib st res (it hf q) H locs ls (lv_sub hl [] rfl) hP hS
  · exact wX2_become_s87 C n b ib st res (ie hf q) H locs ls (lv_sub hl [] rfl) hP hS
def fX2_become_s61 (n : Nat)  (b : Nat)  (st : St) : Option (Unit × St) := if 1000000000 < (if 0 < (st.2 b 0) then (st.2 b 0) else -(st.2 b 0)) then fX2_become_s87 n b st else fX2_become_s76 n b st
set_option maxHeartbeats 4000000 in
set_option maxRecDepth 100000 in
theorem wX2_become_s61 (C : Cx p s m args meth c cX2_become 7 wsL_law RX2 none D G ad) (n : Nat)  (b : Nat)  (ib : isFr b)  (st : St) (res : (Unit × St))  (hf : fX2_become_s61 n  b  st = some res) : At p l e (rmK 1) s m args below meth c D G ad (MQV D G ad below args s res) 7 st [(0, .ref (ad b))] 61 [] := by
  obtain ⟨hx, hb, hml, hown, hts, hr, hlk, hK, had, hSt⟩ := id C
  intro H locs ls hl hP hS
  unfold fX2_become_s61 at hf
  refine lv_aload_n hx hb dX2_become_61 rfl (lv_at hl 0 rfl) ?_
  refine lv_aload_n hx hb dX2_become_62 rfl (lv_at hl 0 rfl) ?_
  refine g_getJ hx hb hts inlX2 hown hK hP b (fr_0 ib) rfl 0 (by decide) (hts _ wm_33_12) rfl dX2_become_63 ?_
  refine va_mabs_long hx hb (hml.trans hl.1.symm) hown (hts _ wm_33_9) (hts _ wm_33_10) (hts _ wm_18_20) (hts _ wm_33_11) (Nat.le_of_ble_eq_true rfl) (Nat.le_of_ble_eq_true rfl) (Nat.zero_le _) (Nat.zero_le _) dX2_become_66 ?_
  refine lv_ldc2 hx hb hown (hts _ wm_33_13) dX2_become_69 ?_
  refine g_lcmp_gt (tgt := 87) hx hb dX2_become_72 dX2_become_73 (by decide) (fun q => ?_) (fun q => ?_)
  · exact wX2_become_s87 C n b ib st res (it hf q) H locs ls (lv_sub hl [] rfl) hP hS
  · exact wX2_become_s76 C n b ib st res (ie hf q) H locs ls (lv_sub hl [0] rfl) hP hS
def fX2_become_s50 (n : Nat)  (b : Nat) (v3 : Int64) (v5 : Int64) (st : St) : Option (Unit × St) := if v5 = 0 then none else (fX2_become_s61 n b (setJ st b 1 ((if 0 < v3 then v3 else -v3) / v5)))
set_option maxHeartbeats 4000000 in
set_option maxRecDepth 100000 in
theorem wX2_become_s50 (C : Cx p s m args meth c cX2_become 7 wsL_law RX2 none D G ad) (n : Nat)  (b : Nat) (v3 : Int64) (v5 : Int64) (ib : isFr b)  (st : St) (res : (Unit × St))  (hf : fX2_become_s50 n  b v3 v5 st = some res) : At p l e (rmK 1) s m args below meth c D G ad (MQV D G ad below args s res) 7 st [(0, .ref (ad b)), (3, .long v3), (5, .long v5)] 50 [] := by
  obtain ⟨hx, hb, hml, hown, hts, hr, hlk, hK, had, hSt⟩ := id C
  intro H locs ls hl hP hS
  unfold fX2_become_s50 at hf
  refine lv_aload_n hx hb dX2_become_50 rfl (lv_at hl 0 rfl) ?_
  refine lv_lload_n hx hb dX2_become_51 rfl (lv_at hl 1 rfl) ?_
  refine va_mabs_long hx hb (hml.trans hl.1.symm) hown (hts _ wm_33_9) (hts _ wm_33_10) (hts _ wm_18_20) (hts _ wm_33_11) (Nat.le_of_ble_eq_true rfl) (Nat.le_of_ble_eq_true rfl) (Nat.zero_le _) (Nat.zero_le _) dX2_become_52 ?_
  refine lv_lload hx hb dX2_become_55 (lv_at hl 2 rfl) ?_
  obtain ⟨g1, hf⟩ := gn hf
  refine lv_ldiv hx hb dX2_become_57 g1 ?_
  refine g_putJ hx hb hts inlX2 tyX2_ok nmX2 hown hK had hP hS b (fr_0 ib) rfl 1 (by decide) (hts _ wm_5_17) rfl rfl rfl dX2_become_58 (fun H locs hP hS => ?_)
  exact wX2_become_s61 C n b ib (setJ st b 1 ((if 0 < v3 then v3 else -v3) / v5)) res hf H locs ls (lv_sub hl [0] rfl) hP hS
def fX2_become_s44 (n : Nat)  (b : Nat) (v3 : Int64) (v5 : Int64) (k1 : Int64) (st : St) : Option (Unit × St) := if v5 = 0 then none else (fX2_become_s50 n b v3 v5 (setJ st b 0 (k1 / v5)))
set_option maxHeartbeats 4000000 in
set_option maxRecDepth 100000 in
theorem wX2_become_s44 (C : Cx p s m args meth c cX2_become 7 wsL_law RX2 none D G ad) (n : Nat)  (b : Nat) (v3 : Int64) (v5 : Int64) (k1 : Int64) (ib : isFr b)  (st : St) (res : (Unit × St))  (hf : fX2_become_s44 n  b v3 v5 k1 st = some res) : At p l e (rmK 1) s m args below meth c D G ad (MQV D G ad below args s res) 7 st [(0, .ref (ad b)), (3, .long v3), (5, .long v5)] 44 [.long k1, .ref (ad b)] := by
  obtain ⟨hx, hb, hml, hown, hts, hr, hlk, hK, had, hSt⟩ := id C
  intro H locs ls hl hP hS
  unfold fX2_become_s44 at hf
  refine lv_lload hx hb dX2_become_44 (lv_at hl 2 rfl) ?_
  obtain ⟨g1, hf⟩ := gn hf
  refine lv_ldiv hx hb dX2_become_46 g1 ?_
  refine g_putJ hx hb hts inlX2 tyX2_ok nmX2 hown hK had hP hS b (fr_0 ib) rfl 0 (by decide) (hts _ wm_33_12) rfl rfl rfl dX2_become_47 (fun H locs hP hS => ?_)
  exact wX2_become_s50 C n b v3 v5 ib (setJ st b 0 (k1 / v5)) res hf H locs ls (lv_sub hl [0, 1, 2] rfl) hP hS
def fX2_become_s43 (n : Nat)  (b : Nat) (v1 : Int64) (v3 : Int64) (v5 : Int64) (st : St) : Option (Unit × St) := fX2_become_s44 n b v3 v5 v1 st
set_option maxHeartbeats 4000000 in
set_option maxRecDepth 100000 in
theorem wX2_become_s43 (C : Cx p s m args meth c cX2_become 7 wsL_law RX2 none D G ad) (n : Nat)  (b : Nat) (v1 : Int64) (v3 : Int64) (v5 : Int64) (ib : isFr b)  (st : St) (res : (Unit × St))  (hf : fX2_become_s43 n  b v1 v3 v5 st = some res) : At p l e (rmK 1) s m args below meth c D G ad (MQV D G ad below args s res) 7 st [(0, .ref (ad b)), (1, .long v1), (3, .long v3), (5, .long v5)] 43 [.ref (ad b)] := by
  obtain ⟨hx, hb, hml, hown, hts, hr, hlk, hK, had, hSt⟩ := id C
  intro H locs ls hl hP hS
  unfold fX2_become_s43 at hf
  refine lv_lload_n hx hb dX2_become_43 rfl (lv_at hl 1 rfl) ?_
  exact wX2_become_s44 C n b v3 v5 v1 ib st res hf H locs ls (lv_sub hl [0, 2, 3] rfl) hP hS
def fX2_become_s38 (n : Nat)  (b : Nat) (v1 : Int64) (v3 : Int64) (v5 : Int64) (st : St) : Option (Unit × St) := fX2_become_s44 n b v3 v5 (-v1) st
set_option maxHeartbeats 4000000 in
set_option maxRecDepth 100000 in
theorem wX2_become_s38 (C : Cx p s m args meth c cX2_become 7 wsL_law RX2 none D G ad) (n : Nat)  (b : Nat) (v1 : Int64) (v3 : Int64) (v5 : Int64) (ib : isFr b)  (st : St) (res : (Unit × St))  (hf : fX2_become_s38 n  b v1 v3 v5 st = some res) : At p l e (rmK 1) s m args below meth c D G ad (MQV D G ad below args s res) 7 st [(0, .ref (ad b)), (1, .long v1), (3, .long v3), (5, .long v5)] 38 [.ref (ad b)] := by
  obtain ⟨hx, hb, hml, hown, hts, hr, hlk, hK, had, hSt⟩ := id C
  intro H locs ls hl hP hS
  unfold fX2_become_s38 at hf
  refine lv_lload_n hx hb dX2_become_38 rfl (lv_at hl 1 rfl) ?_
  refine lv_lneg hx hb dX2_become_39 ?_
  refine lv_goto (tgt := 44) hx hb dX2_become_40 (by decide) ?_
  exact wX2_become_s44 C n b v3 v5 (-v1) ib st res hf H locs ls (lv_sub hl [0, 2, 3] rfl) hP hS
def fX2_become_s31 (n : Nat)  (b : Nat) (v1 : Int64) (v3 : Int64) (v5 : Int64) (st : St) : Option (Unit × St) := if 0 ≤ v3 then fX2_become_s43 n b v1 v3 v5 st else fX2_become_s38 n b v1 v3 v5 st
set_option maxHeartbeats 4000000 in
set_option maxRecDepth 100000 in
theorem wX2_become_s31 (C : Cx p s m args meth c cX2_become 7 wsL_law RX2 none D G ad) (n : Nat)  (b : Nat) (v1 : Int64) (v3 : Int64) (v5 : Int64) (ib : isFr b)  (st : St) (res : (Unit × St))  (hf : fX2_become_s31 n  b v1 v3 v5 st = some res) : At p l e (rmK 1) s m args below meth c D G ad (MQV D G ad below args s res) 7 st [(0, .ref (ad b)), (1, .long v1), (3, .long v3), (5, .long v5)] 31 [] := by
  obtain ⟨hx, hb, hml, hown, hts, hr, hlk, hK, had, hSt⟩ := id C
  intro H locs ls hl hP hS
  unfold fX2_become_s31 at hf
  refine lv_aload_n hx hb dX2_become_31 rfl (lv_at hl 0 rfl) ?_
  refine lv_lload_n hx hb dX2_become_32 rfl (lv_at hl 2 rfl) ?_
  refine lv_lconst (v := 0) hx hb dX2_become_33 (by decide) ?_
  refine g_lcmp_ge (tgt := 43) hx hb dX2_become_34 dX2_become_35 (by decide) (fun q => ?_) (fun q => ?_)
  · exact wX2_become_s43 C n b v1 v3 v5 ib st res (it hf q) H locs ls (lv_sub hl [0, 1, 2, 3] rfl) hP hS
  · exact wX2_become_s38 C n b v1 v3 v5 ib st res (ie hf q) H locs ls (lv_sub hl [0, 1, 2, 3] rfl) hP hS
def fX2_become_s19 (n : Nat)  (b : Nat) (v1 : Int64) (v3 : Int64) (v5 : Int64) (st : St) : Option (Unit × St) := if v5 = 0 then fX2_become_s26 n b st else fX2_become_s31 n b v1 v3 v5 st
set_option maxHeartbeats 4000000 in
set_option maxRecDepth 100000 in
theorem wX2_become_s19 (C : Cx p s m args meth c cX2_become 7 wsL_law RX2 none D G ad) (n : Nat)  (b : Nat) (v1 : Int64) (v3 : Int64) (v5 : Int64) (ib : isFr b)  (st : St) (res : (Unit × St))  (hf : fX2_become_s19 n  b v1 v3 v5 st = some res) : At p l e (rmK 1) s m args below meth c D G ad (MQV D G ad below args s res) 7 st [(0, .ref (ad b)), (1, .long v1), (3, .long v3), (5, .long v5)] 19 [] := by
  obtain ⟨hx, hb, hml, hown, hts, hr, hlk, hK, had, hSt⟩ := id C
  intro H locs ls hl hP hS
  unfold fX2_become_s19 at hf
  refine lv_lload hx hb dX2_become_19 (lv_at hl 3 rfl) ?_
  refine lv_lconst (v := 0) hx hb dX2_become_21 (by decide) ?_
  refine g_lcmp_ne (tgt := 31) hx hb dX2_become_22 dX2_become_23 (by decide) (fun q => ?_) (fun q => ?_)
  · exact wX2_become_s31 C n b v1 v3 v5 ib st res (ie hf q) H locs ls (lv_sub hl [0, 1, 2, 3] rfl) hP hS
  · exact wX2_become_s26 C n b ib st res (it hf q) H locs ls (lv_sub hl [0] rfl) hP hS
def fX2_become_s11 (n : Nat)  (b : Nat) (v1 : Int64) (v3 : Int64) (k0 : Int64) (st : St) : Option (Unit × St) := if v3 = 0 then fX2_become_s26 n b st else fX2_become_s19 n b v1 v3 k0 st
set_option maxHeartbeats 4000000 in
set_option maxRecDepth 100000 in
theorem wX2_become_s11 (C : Cx p s m args meth c cX2_become 7 wsL_law RX2 none D G ad) (n : Nat)  (b : Nat) (v1 : Int64) (v3 : Int64) (k0 : Int64) (ib : isFr b)  (st : St) (res : (Unit × St))  (hf : fX2_become_s11 n  b v1 v3 k0 st = some res) : At p l e (rmK 1) s m args below meth c D G ad (MQV D G ad below args s res) 7 st [(0, .ref (ad b)), (1, .long v1), (3, .long v3)] 11 [.long k0] := by
  obtain ⟨hx, hb, hml, hown, hts, hr, hlk, hK, had, hSt⟩ := id C
  intro H locs ls hl hP hS
  unfold fX2_become_s11 at hf
  refine lv_lstore (lv' := [(5, .long k0), (0, .ref (ad b)), (1, .long v1), (3, .long v3)]) hx hb dX2_become_11 hl (by decide) rfl (fun ls hl => ?_)
  refine lv_lload_n hx hb dX2_become_13 rfl (lv_at hl 3 rfl) ?_
  refine lv_lconst (v := 0) hx hb dX2_become_14 (by decide) ?_
  refine g_lcmp_eq (tgt := 26) hx hb dX2_become_15 dX2_become_16 (by decide) (fun q => ?_) (fun q => ?_)
  · exact wX2_become_s26 C n b ib st res (it hf q) H locs ls (lv_sub hl [1] rfl) hP hS
  · exact wX2_become_s19 C n b v1 v3 k0 ib st res (ie hf q) H locs ls (lv_sub hl [1, 2, 3, 0] rfl) hP hS
def fX2_become_s0 (n : Nat)  (b : Nat) (v1 : Int64) (v3 : Int64) (st : St) : Option (Unit × St) := (fX2_commonDivisor n (if 0 < v1 then v1 else -v1) (if 0 < v3 then v3 else -v3) st).bind (fun q => fX2_become_s11 n b v1 v3 q.1 q.2)
set_option maxHeartbeats 4000000 in
set_option maxRecDepth 100000 in
theorem wX2_become_s0 (C : Cx p s m args meth c cX2_become 7 wsL_law RX2 none D G ad) (n : Nat)  (b : Nat) (v1 : Int64) (v3 : Int64) (ib : isFr b)  (st : St) (res : (Unit × St))  (hf : fX2_become_s0 n  b v1 v3 st = some res) : At p l e (rmK 1) s m args below meth c D G ad (MQV D G ad below args s res) 7 st [(0, .ref (ad b)), (1, .long v1), (3, .long v3)] 0 [] := by
  obtain ⟨hx, hb, hml, hown, hts, hr, hlk, hK, had, hSt⟩ := id C
  intro H locs ls hl hP hS
  unfold fX2_become_s0 at hf
  refine lv_lload_n hx hb dX2_become_0 rfl (lv_at hl 1 rfl) ?_
  refine va_mabs_long hx hb (hml.trans hl.1.symm) hown (hts _ wm_33_9) (hts _ wm_33_10) (hts _ wm_18_20) (hts _ wm_33_11) (Nat.le_of_ble_eq_true rfl) (Nat.le_of_ble_eq_true rfl) (Nat.zero_le _) (Nat.zero_le _) dX2_become_1 ?_
  refine lv_lload_n hx hb dX2_become_4 rfl (lv_at hl 2 rfl) ?_
  refine va_mabs_long hx hb (hml.trans hl.1.symm) hown (hts _ wm_33_9) (hts _ wm_33_10) (hts _ wm_18_20) (hts _ wm_33_11) (Nat.le_of_ble_eq_true rfl) (Nat.le_of_ble_eq_true rfl) (Nat.zero_le _) (Nat.zero_le _) dX2_become_5 ?_
  obtain ⟨q, hq, hf⟩ := bd hf
  refine gcS_j (k := 0) (As := [.long (if 0 < v1 then v1 else -v1), .long (if 0 < v3 then v3 else -v3)]) (rest := []) hx hb hml hown hts hK hSt hP hS hl.1 (goodS wm_33_15 wm_33_16 wm_2_15 wm_33_17) okX2_commonDivisor (Nat.le_of_ble_eq_true rfl) (Nat.le_of_ble_eq_true rfl) rfl rfl (Nat.le_of_ble_eq_true rfl) dX2_become_8 (kX2_commonDivisor l D G ad had n  (if 0 < v1 then v1 else -v1) (if 0 < v3 then v3 else -v3) st q hq) (fun H locs hP hS => ?_)
  exact wX2_become_s11 C n b v1 v3 q.1 ib q.2 res hf H locs ls (lv_sub hl [0, 1, 2] rfl) hP hS
def fX2_become (n : Nat) (b : Nat) (a1 : Int64) (a3 : Int64) (st : St) : Option (Unit × St) := fX2_become_s0 n b a1 a3 st
theorem okX2_become : okY yX2_become RX2 2 := by unfold okY; decide +kernel
end
set_option maxRecDepth 100000 in
theorem kX2_become (l : Launch) (D : va_G) (G : G3) (ad : Nat → Nat) (had : Adr ad) (n : Nat) (b : Nat) (ib : isFr b) (a1 : Int64) (a3 : Int64) (st : St) (res : (Unit × St)) (hf : fX2_become n b a1 a3 st = some res) {sz : Nat} : CtV l yX2_become (wsU yX2_become cX2_become 7 none) (rmK 1) D G ad sz [.ref (ad b), .long a1, .long a3] st res := by
  refine Met.ofW (cc := cX2_become) (maxL := 7) (ret := none) (by decide) rfl ?_
  intro p e s m args below meth c s₁ B hml hv
  obtain ⟨rfl, hsz, hP, hK, hSt⟩ := hv
  have hts := atoms_spec (ws := wsU yX2_become cX2_become 7 none) B.pre
  have C : Cx p s m _ meth c cX2_become 7 wsL_law RX2 none D G ad := ⟨B.exec, B.bytes, hml, findClass_of_methodNamed B.named, fun w h => hts w (List.mem_cons_of_mem _ h), B.returns, B.notSynchronized, hK, had, hSt⟩
  subst hsz
  have hl := lv_entry ([.ref (ad b), .long a1, .long a3]) (n := 7) (Nat.le_of_ble_eq_true rfl)
  rw [lg_entry_eq]
  generalize (lg_sl ([.ref (ad b), .long a1, .long a3]) ++ List.replicate (7 - (lg_sl ([.ref (ad b), .long a1, .long a3])).length) Slot.unset).toArray = ls at hl ⊢
  exact wX2_become_s0 C n b a1 a3 ib  st res hf s.heap [] ls (lv_sub hl [0, 1, 2] rfl) hP va_S.rf
section
variable {p : Program} {l : Launch} {e : Env} {s : State} {m : MethodId} {args : Array Value} {below : List Frame} {meth : Method} {c : Code} {D : va_G} {G : G3} {ad : Nat → Nat}
def fX2_becomeSum_s53 (n : Nat)  (b : Nat) (b1 : Nat) (b2 : Nat)  (st : St) : Option (Unit × St) := some ((), st)
set_option maxHeartbeats 4000000 in
set_option maxRecDepth 100000 in
theorem wX2_becomeSum_s53 (C : Cx p s m args meth c cX2_becomeSum 3 wsL_law RX2 none D G ad) (n : Nat)  (b : Nat) (b1 : Nat) (b2 : Nat)  (ib : isFr b) (ib1 : isFr b1) (ib2 : isFr b2)  (st : St) (res : (Unit × St))  (hf : fX2_becomeSum_s53 n  b b1 b2  st = some res) : At p l e (rmK 2) s m args below meth c D G ad (MQV D G ad below args s res) 3 st [] 53 [] := by
  obtain ⟨hx, hb, hml, hown, hts, hr, hlk, hK, had, hSt⟩ := id C
  intro H locs ls hl hP hS
  unfold fX2_becomeSum_s53 at hf
  exact g_vret hx hb hr hlk hP hS dX2_becomeSum_53 hf
def fX2_becomeSum_s18 (n : Nat)  (b : Nat) (b1 : Nat) (b2 : Nat)  (st : St) : Option (Unit × St) := fX2_becomeSum_s53 n b b1 b2 st
set_option maxHeartbeats 4000000 in
set_option maxRecDepth 100000 in
theorem wX2_becomeSum_s18 (C : Cx p s m args meth c cX2_becomeSum 3 wsL_law RX2 none D G ad) (n : Nat)  (b : Nat) (b1 : Nat) (b2 : Nat)  (ib : isFr b) (ib1 : isFr b1) (ib2 : isFr b2)  (st : St) (res : (Unit × St))  (hf : fX2_becomeSum_s18 n  b b1 b2  st = some res) : At p l e (rmK 2) s m args below meth c D G ad (MQV D G ad below args s res) 3 st [] 18 [] := by
  obtain ⟨hx, hb, hml, hown, hts, hr, hlk, hK, had, hSt⟩ := id C
  intro H locs ls hl hP hS
  unfold fX2_becomeSum_s18 at hf
  refine lv_goto (tgt := 53) hx hb dX2_becomeSum_18 (by decide) ?_
  exact wX2_becomeSum_s53 C n b b1 b2 ib ib1 ib2 st res hf H locs ls (lv_sub hl [] rfl) hP hS
def fX2_becomeSum_s14 (n : Nat)  (b : Nat) (b1 : Nat) (b2 : Nat)  (st : St) : Option (Unit × St) := (fX2_spend n b st).bind (fun q => fX2_becomeSum_s18 n b b1 b2 q.2)
set_option maxHeartbeats 4000000 in
set_option maxRecDepth 100000 in
theorem wX2_becomeSum_s14 (C : Cx p s m args meth c cX2_becomeSum 3 wsL_law RX2 none D G ad) (n : Nat)  (b : Nat) (b1 : Nat) (b2 : Nat)  (ib : isFr b) (ib1 : isFr b1) (ib2 : isFr b2)  (st : St) (res : (Unit × St))  (hf : fX2_becomeSum_s14 n  b b1 b2  st = some res) : At p l e (rmK 2) s m args below meth c D G ad (MQV D G ad below args s res) 3 st [(0, .ref (ad b))] 14 [] := by
  obtain ⟨hx, hb, hml, hown, hts, hr, hlk, hK, had, hSt⟩ := id C
  intro H locs ls hl hP hS
  unfold fX2_becomeSum_s14 at hf
  refine lv_aload_n hx hb dX2_becomeSum_14 rfl (lv_at hl 0 rfl) ?_
  obtain ⟨q, hq, hf⟩ := bd hf
  refine gcV_v (k := 0) (o := b) (As := []) (rest := []) hx hb hml hown hts hK hSt hP hS hl.1 (goodV wm_33_18 wm_33_19 wm_33_20 wm_2_15 wm_33_21) okX2_spend (fr_0 ib) rfl rfl (Nat.le_of_ble_eq_true rfl) (Nat.le_of_ble_eq_true rfl) rfl rfl (Nat.le_of_ble_eq_true rfl) dX2_becomeSum_15 (kX2_spend l D G ad had n b ib  st q hq) (fun H locs hP hS => ?_)
  exact wX2_becomeSum_s18 C n b b1 b2 ib ib1 ib2 q.2 res hf H locs ls (lv_sub hl [] rfl) hP hS
def fX2_becomeSum_s21 (n : Nat)  (b : Nat) (b1 : Nat) (b2 : Nat)  (st : St) : Option (Unit × St) := (fX2_become n b (((st.2 b1 0) * (st.2 b2 1)) + ((st.2 b2 0) * (st.2 b1 1))) ((st.2 b1 1) * (st.2 b2 1)) st).bind (fun q => fX2_becomeSum_s53 n b b1 b2 q.2)
set_option maxHeartbeats 4000000 in
set_option maxRecDepth 100000 in
theorem wX2_becomeSum_s21 (C : Cx p s m args meth c cX2_becomeSum 3 wsL_law RX2 none D G ad) (n : Nat)  (b : Nat) (b1 : Nat) (b2 : Nat)  (ib : isFr b) (ib1 : isFr b1) (ib2 : isFr b2)  (st : St) (res : (Unit × St))  (hf : fX2_becomeSum_s21 n  b b1 b2  st = some res) : At p l e (rmK 2) s m args below meth c D G ad (MQV D G ad below args s res) 3 st [(0, .ref (ad b)), (1, .ref (ad b1)), (2, .ref (ad b2))] 21 [] := by
  obtain ⟨hx, hb, hml, hown, hts, hr, hlk, hK, had, hSt⟩ := id C
  intro H locs ls hl hP hS
  unfold fX2_becomeSum_s21 at hf
  refine lv_aload_n hx hb dX2_becomeSum_21 rfl (lv_at hl 0 rfl) ?_
  refine lv_aload_n hx hb dX2_becomeSum_22 rfl (lv_at hl 1 rfl) ?_
  refine g_getJ hx hb hts inlX2 hown hK hP b1 (fr_0 ib1) rfl 0 (by decide) (hts _ wm_33_12) rfl dX2_becomeSum_23 ?_
  refine lv_aload_n hx hb dX2_becomeSum_26 rfl (lv_at hl 2 rfl) ?_
  refine g_getJ hx hb hts inlX2 hown hK hP b2 (fr_0 ib2) rfl 1 (by decide) (hts _ wm_5_17) rfl dX2_becomeSum_27 ?_
  refine lv_lmul hx hb dX2_becomeSum_30 ?_
  refine lv_aload_n hx hb dX2_becomeSum_31 rfl (lv_at hl 2 rfl) ?_
  refine g_getJ hx hb hts inlX2 hown hK hP b2 (fr_0 ib2) rfl 0 (by decide) (hts _ wm_33_12) rfl dX2_becomeSum_32 ?_
  refine lv_aload_n hx hb dX2_becomeSum_35 rfl (lv_at hl 1 rfl) ?_
  refine g_getJ hx hb hts inlX2 hown hK hP b1 (fr_0 ib1) rfl 1 (by decide) (hts _ wm_5_17) rfl dX2_becomeSum_36 ?_
  refine lv_lmul hx hb dX2_becomeSum_39 ?_
  refine lv_ladd hx hb dX2_becomeSum_40 ?_
  refine lv_aload_n hx hb dX2_becomeSum_41 rfl (lv_at hl 1 rfl) ?_
  refine g_getJ hx hb hts inlX2 hown hK hP b1 (fr_0 ib1) rfl 1 (by decide) (hts _ wm_5_17) rfl dX2_becomeSum_42 ?_
  refine lv_aload_n hx hb dX2_becomeSum_45 rfl (lv_at hl 2 rfl) ?_
  refine g_getJ hx hb hts inlX2 hown hK hP b2 (fr_0 ib2) rfl 1 (by decide) (hts _ wm_5_17) rfl dX2_becomeSum_46 ?_
  refine lv_lmul hx hb dX2_becomeSum_49 ?_
  obtain ⟨q, hq, hf⟩ := bd hf
  refine gcV_v (k := 1) (o := b) (As := [.long (((st.2 b1 0) * (st.2 b2 1)) + ((st.2 b2 0) * (st.2 b1 1))), .long ((st.2 b1 1) * (st.2 b2 1))]) (rest := []) hx hb hml hown hts hK hSt hP hS hl.1 (goodV wm_36_0 wm_33_6 wm_33_7 wm_2_15 wm_33_8) okX2_become (fr_0 ib) rfl rfl (Nat.le_of_ble_eq_true rfl) (Nat.le_of_ble_eq_true rfl) rfl rfl (Nat.le_of_ble_eq_true rfl) dX2_becomeSum_50 (kX2_become l D G ad had n b ib (((st.2 b1 0) * (st.2 b2 1)) + ((st.2 b2 0) * (st.2 b1 1))) ((st.2 b1 1) * (st.2 b2 1)) st q hq) (fun H locs hP hS => ?_)
  exact wX2_becomeSum_s53 C n b b1 b2 ib ib1 ib2 q.2 res hf H locs ls (lv_sub hl [] rfl) hP hS
def fX2_becomeSum_s7 (n : Nat)  (b : Nat) (b1 : Nat) (b2 : Nat)  (st : St) : Option (Unit × St) := if (st.1 b2 2) = 0 then fX2_becomeSum_s21 n b b1 b2 st else fX2_becomeSum_s14 n b b1 b2 st
set_option maxHeartbeats 4000000 in
set_option maxRecDepth 100000 in
theorem wX2_becomeSum_s7 (C : Cx p s m args meth c cX2_becomeSum 3 wsL_law RX2 none D G ad) (n : Nat)  (b : Nat) (b1 : Nat) (b2 : Nat)  (ib : isFr b) (ib1 : isFr b1) (ib2 : isFr b2)  (st : St) (res : (Unit × St))  (hf : fX2_becomeSum_s7 n  b b1 b2  st = some res) : At p l e (rmK 2) s m args below meth c D G ad (MQV D G ad below args s res) 3 st [(0, .ref (ad b)), (1, .ref (ad b1)), (2, .ref (ad b2))] 7 [] := by
  obtain ⟨hx, hb, hml, hown, hts, hr, hlk, hK, had, hSt⟩ := id C
  intro H locs ls hl hP hS
  unfold fX2_becomeSum_s7 at hf
  refine lv_aload_n hx hb dX2_becomeSum_7 rfl (lv_at hl 2 rfl) ?_
  refine g_getI hx hb hts inlX2 hown hK hP b2 (fr_0 ib2) rfl 2 (by decide) (hts _ wm_33_14) rfl dX2_becomeSum_8 ?_
  refine lv_if_eq (tgt := 21) hx hb dX2_becomeSum_11 (by decide) (fun q => ?_) (fun q => ?_)
  · exact wX2_becomeSum_s21 C n b b1 b2 ib ib1 ib2 st res (it hf q) H locs ls (lv_sub hl [0, 1, 2] rfl) hP hS
  · exact wX2_becomeSum_s14 C n b b1 b2 ib ib1 ib2 st res (ie hf q) H locs ls (lv_sub hl [0] rfl) hP hS
def fX2_becomeSum_s0 (n : Nat)  (b : Nat) (b1 : Nat) (b2 : Nat)  (st : St) : Option (Unit × St) := if (st.1 b1 2) = 0 then fX2_becomeSum_s7 n b b1 b2 st else fX2_becomeSum_s14 n b b1 b2 st
set_option maxHeartbeats 4000000 in
set_option maxRecDepth 100000 in
theorem wX2_becomeSum_s0 (C : Cx p s m args meth c cX2_becomeSum 3 wsL_law RX2 none D G ad) (n : Nat)  (b : Nat) (b1 : Nat) (b2 : Nat)  (ib : isFr b) (ib1 : isFr b1) (ib2 : isFr b2)  (st : St) (res : (Unit × St))  (hf : fX2_becomeSum_s0 n  b b1 b2  st = some res) : At p l e (rmK 2) s m args below meth c D G ad (MQV D G ad below args s res) 3 st [(0, .ref (ad b)), (1, .ref (ad b1)), (2, .ref (ad b2))] 0 [] := by
  obtain ⟨hx, hb, hml, hown, hts, hr, hlk, hK, had, hSt⟩ := id C
  intro H locs ls hl hP hS
  unfold fX2_becomeSum_s0 at hf
  refine lv_aload_n hx hb dX2_becomeSum_0 rfl (lv_at hl 1 rfl) ?_
  refine g_getI hx hb hts inlX2 hown hK hP b1 (fr_0 ib1) rfl 2 (by decide) (hts _ wm_33_14) rfl dX2_becomeSum_1 ?_
  refine lv_if_ne (tgt := 14) hx hb dX2_becomeSum_4 (by decide) (fun q => ?_) (fun q => ?_)
  · exact wX2_becomeSum_s14 C n b b1 b2 ib ib1 ib2 st res (ie hf q) H locs ls (lv_sub hl [0] rfl) hP hS
  · exact wX2_becomeSum_s7 C n b b1 b2 ib ib1 ib2 st res (it hf q) H locs ls (lv_sub hl [0, 1, 2] rfl) hP hS
def fX2_becomeSum (n : Nat) (b : Nat) (b1 : Nat) (b2 : Nat)  (st : St) : Option (Unit × St) := fX2_becomeSum_s0 n b b1 b2 st
theorem okX2_becomeSum : okY yX2_becomeSum RX2 2 := by unfold okY; decide +kernel
end
set_option maxRecDepth 100000 in
theorem kX2_becomeSum (l : Launch) (D : va_G) (G : G3) (ad : Nat → Nat) (had : Adr ad) (n : Nat) (b : Nat) (b1 : Nat) (b2 : Nat) (ib : isFr b) (ib1 : isFr b1) (ib2 : isFr b2)  (st : St) (res : (Unit × St)) (hf : fX2_becomeSum n b b1 b2  st = some res) {sz : Nat} : CtV l yX2_becomeSum (wsU yX2_becomeSum cX2_becomeSum 3 none) (rmK 2) D G ad sz [.ref (ad b), .ref (ad b1), .ref (ad b2)] st res := by
  refine Met.ofW (cc := cX2_becomeSum) (maxL := 3) (ret := none) (by decide) rfl ?_
  intro p e s m args below meth c s₁ B hml hv
  obtain ⟨rfl, hsz, hP, hK, hSt⟩ := hv
  have hts := atoms_spec (ws := wsU yX2_becomeSum cX2_becomeSum 3 none) B.pre
  have C : Cx p s m _ meth c cX2_becomeSum 3 wsL_law RX2 none D G ad := ⟨B.exec, B.bytes, hml, findClass_of_methodNamed B.named, fun w h => hts w (List.mem_cons_of_mem _ h), B.returns, B.notSynchronized, hK, had, hSt⟩
  subst hsz
  have hl := lv_entry ([.ref (ad b), .ref (ad b1), .ref (ad b2)]) (n := 3) (Nat.le_of_ble_eq_true rfl)
  rw [lg_entry_eq]
  generalize (lg_sl ([.ref (ad b), .ref (ad b1), .ref (ad b2)]) ++ List.replicate (3 - (lg_sl ([.ref (ad b), .ref (ad b1), .ref (ad b2)])).length) Slot.unset).toArray = ls at hl ⊢
  exact wX2_becomeSum_s0 C n b b1 b2  ib ib1 ib2  st res hf s.heap [] ls (lv_sub hl [0, 1, 2] rfl) hP va_S.rf
section
variable {p : Program} {l : Launch} {e : Env} {s : State} {m : MethodId} {args : Array Value} {below : List Frame} {meth : Method} {c : Code} {D : va_G} {G : G3} {ad : Nat → Nat}
def fX2_becomeDifference_s53 (n : Nat)  (b : Nat) (b1 : Nat) (b2 : Nat)  (st : St) : Option (Unit × St) := some ((), st)
set_option maxHeartbeats 4000000 in
set_option maxRecDepth 100000 in
theorem wX2_becomeDifference_s53 (C : Cx p s m args meth c cX2_becomeDifference 3 wsL_law RX2 none D G ad) (n : Nat)  (b : Nat) (b1 : Nat) (b2 : Nat)  (ib : isFr b) (ib1 : isFr b1) (ib2 : isFr b2)  (st : St) (res : (Unit × St))  (hf : fX2_becomeDifference_s53 n  b b1 b2  st = some res) : At p l e (rmK 2) s m args below meth c D G ad (MQV D G ad below args s res) 3 st [] 53 [] := by
  obtain ⟨hx, hb, hml, hown, hts, hr, hlk, hK, had, hSt⟩ := id C
  intro H locs ls hl hP hS
  unfold fX2_becomeDifference_s53 at hf
  exact g_vret hx hb hr hlk hP hS dX2_becomeDifference_53 hf
def fX2_becomeDifference_s18 (n : Nat)  (b : Nat) (b1 : Nat) (b2 : Nat)  (st : St) : Option (Unit × St) := fX2_becomeDifference_s53 n b b1 b2 st
set_option maxHeartbeats 4000000 in
set_option maxRecDepth 100000 in
theorem wX2_becomeDifference_s18 (C : Cx p s m args meth c cX2_becomeDifference 3 wsL_law RX2 none D G ad) (n : Nat)  (b : Nat) (b1 : Nat) (b2 : Nat)  (ib : isFr b) (ib1 : isFr b1) (ib2 : isFr b2)  (st : St) (res : (Unit × St))  (hf : fX2_becomeDifference_s18 n  b b1 b2  st = some res) : At p l e (rmK 2) s m args below meth c D G ad (MQV D G ad below args s res) 3 st [] 18 [] := by
  obtain ⟨hx, hb, hml, hown, hts, hr, hlk, hK, had, hSt⟩ := id C
  intro H locs ls hl hP hS
  unfold fX2_becomeDifference_s18 at hf
  refine lv_goto (tgt := 53) hx hb dX2_becomeDifference_18 (by decide) ?_
  exact wX2_becomeDifference_s53 C n b b1 b2 ib ib1 ib2 st res hf H locs ls (lv_sub hl [] rfl) hP hS
def fX2_becomeDifference_s14 (n : Nat)  (b : Nat) (b1 : Nat) (b2 : Nat)  (st : St) : Option (Unit × St) := (fX2_spend n b st).bind (fun q => fX2_becomeDifference_s18 n b b1 b2 q.2)
set_option maxHeartbeats 4000000 in
set_option maxRecDepth 100000 in
theorem wX2_becomeDifference_s14 (C : Cx p s m args meth c cX2_becomeDifference 3 wsL_law RX2 none D G ad) (n : Nat)  (b : Nat) (b1 : Nat) (b2 : Nat)  (ib : isFr b) (ib1 : isFr b1) (ib2 : isFr b2)  (st : St) (res : (Unit × St))  (hf : fX2_becomeDifference_s14 n  b b1 b2  st = some res) : At p l e (rmK 2) s m args below meth c D G ad (MQV D G ad below args s res) 3 st [(0, .ref (ad b))] 14 [] := by
  obtain ⟨hx, hb, hml, hown, hts, hr, hlk, hK, had, hSt⟩ := id C
  intro H locs ls hl hP hS
  unfold fX2_becomeDifference_s14 at hf
  refine lv_aload_n hx hb dX2_becomeDifference_14 rfl (lv_at hl 0 rfl) ?_
  obtain ⟨q, hq, hf⟩ := bd hf
  refine gcV_v (k := 0) (o := b) (As := []) (rest := []) hx hb hml hown hts hK hSt hP hS hl.1 (goodV wm_33_18 wm_33_19 wm_33_20 wm_2_15 wm_33_21) okX2_spend (fr_0 ib) rfl rfl (Nat.le_of_ble_eq_true rfl) (Nat.le_of_ble_eq_true rfl) rfl rfl (Nat.le_of_ble_eq_true rfl) dX2_becomeDifference_15 (kX2_spend l D G ad had n b ib  st q hq) (fun H locs hP hS => ?_)
  exact wX2_becomeDifference_s18 C n b b1 b2 ib ib1 ib2 q.2 res hf H locs ls (lv_sub hl [] rfl) hP hS
def fX2_becomeDifference_s21 (n : Nat)  (b : Nat) (b1 : Nat) (b2 : Nat)  (st : St) : Option (Unit × St) := (fX2_become n b (((st.2 b1 0) * (st.2 b2 1)) - ((st.2 b2 0) * (st.2 b1 1))) ((st.2 b1 1) * (st.2 b2 1)) st).bind (fun q => fX2_becomeDifference_s53 n b b1 b2 q.2)
set_option maxHeartbeats 4000000 in
set_option maxRecDepth 100000 in
theorem wX2_becomeDifference_s21 (C : Cx p s m args meth c cX2_becomeDifference 3 wsL_law RX2 none D G ad) (n : Nat)  (b : Nat) (b1 : Nat) (b2 : Nat)  (ib : isFr b) (ib1 : isFr b1) (ib2 : isFr b2)  (st : St) (res : (Unit × St))  (hf : fX2_becomeDifference_s21 n  b b1 b2  st = some res) : At p l e (rmK 2) s m args below meth c D G ad (MQV D G ad below args s res) 3 st [(0, .ref (ad b)), (1, .ref (ad b1)), (2, .ref (ad b2))] 21 [] := by
  obtain ⟨hx, hb, hml, hown, hts, hr, hlk, hK, had, hSt⟩ := id C
  intro H locs ls hl hP hS
  unfold fX2_becomeDifference_s21 at hf
  refine lv_aload_n hx hb dX2_becomeDifference_21 rfl (lv_at hl 0 rfl) ?_
  refine lv_aload_n hx hb dX2_becomeDifference_22 rfl (lv_at hl 1 rfl) ?_
  refine g_getJ hx hb hts inlX2 hown hK hP b1 (fr_0 ib1) rfl 0 (by decide) (hts _ wm_33_12) rfl dX2_becomeDifference_23 ?_
  refine lv_aload_n hx hb dX2_becomeDifference_26 rfl (lv_at hl 2 rfl) ?_
  refine g_getJ hx hb hts inlX2 hown hK hP b2 (fr_0 ib2) rfl 1 (by decide) (hts _ wm_5_17) rfl dX2_becomeDifference_27 ?_
  refine lv_lmul hx hb dX2_becomeDifference_30 ?_
  refine lv_aload_n hx hb dX2_becomeDifference_31 rfl (lv_at hl 2 rfl) ?_
  refine g_getJ hx hb hts inlX2 hown hK hP b2 (fr_0 ib2) rfl 0 (by decide) (hts _ wm_33_12) rfl dX2_becomeDifference_32 ?_
  refine lv_aload_n hx hb dX2_becomeDifference_35 rfl (lv_at hl 1 rfl) ?_
  refine g_getJ hx hb hts inlX2 hown hK hP b1 (fr_0 ib1) rfl 1 (by decide) (hts _ wm_5_17) rfl dX2_becomeDifference_36 ?_
  refine lv_lmul hx hb dX2_becomeDifference_39 ?_
  refine lv_lsub hx hb dX2_becomeDifference_40 ?_
  refine lv_aload_n hx hb dX2_becomeDifference_41 rfl (lv_at hl 1 rfl) ?_
  refine g_getJ hx hb hts inlX2 hown hK hP b1 (fr_0 ib1) rfl 1 (by decide) (hts _ wm_5_17) rfl dX2_becomeDifference_42 ?_
  refine lv_aload_n hx hb dX2_becomeDifference_45 rfl (lv_at hl 2 rfl) ?_
  refine g_getJ hx hb hts inlX2 hown hK hP b2 (fr_0 ib2) rfl 1 (by decide) (hts _ wm_5_17) rfl dX2_becomeDifference_46 ?_
  refine lv_lmul hx hb dX2_becomeDifference_49 ?_
  obtain ⟨q, hq, hf⟩ := bd hf
  refine gcV_v (k := 1) (o := b) (As := [.long (((st.2 b1 0) * (st.2 b2 1)) - ((st.2 b2 0) * (st.2 b1 1))), .long ((st.2 b1 1) * (st.2 b2 1))]) (rest := []) hx hb hml hown hts hK hSt hP hS hl.1 (goodV wm_36_0 wm_33_6 wm_33_7 wm_2_15 wm_33_8) okX2_become (fr_0 ib) rfl rfl (Nat.le_of_ble_eq_true rfl) (Nat.le_of_ble_eq_true rfl) rfl rfl (Nat.le_of_ble_eq_true rfl) dX2_becomeDifference_50 (kX2_become l D G ad had n b ib (((st.2 b1 0) * (st.2 b2 1)) - ((st.2 b2 0) * (st.2 b1 1))) ((st.2 b1 1) * (st.2 b2 1)) st q hq) (fun H locs hP hS => ?_)
  exact wX2_becomeDifference_s53 C n b b1 b2 ib ib1 ib2 q.2 res hf H locs ls (lv_sub hl [] rfl) hP hS
def fX2_becomeDifference_s7 (n : Nat)  (b : Nat) (b1 : Nat) (b2 : Nat)  (st : St) : Option (Unit × St) := if (st.1 b2 2) = 0 then fX2_becomeDifference_s21 n b b1 b2 st else fX2_becomeDifference_s14 n b b1 b2 st
set_option maxHeartbeats 4000000 in
set_option maxRecDepth 100000 in
theorem wX2_becomeDifference_s7 (C : Cx p s m args meth c cX2_becomeDifference 3 wsL_law RX2 none D G ad) (n : Nat)  (b : Nat) (b1 : Nat) (b2 : Nat)  (ib : isFr b) (ib1 : isFr b1) (ib2 : isFr b2)  (st : St) (res : (Unit × St))  (hf : fX2_becomeDifference_s7 n  b b1 b2  st = some res) : At p l e (rmK 2) s m args below meth c D G ad (MQV D G ad below args s res) 3 st [(0, .ref (ad b)), (1, .ref (ad b1)), (2, .ref (ad b2))] 7 [] := by
  obtain ⟨hx, hb, hml, hown, hts, hr, hlk, hK, had, hSt⟩ := id C
  intro H locs ls hl hP hS
  unfold fX2_becomeDifference_s7 at hf
  refine lv_aload_n hx hb dX2_becomeDifference_7 rfl (lv_at hl 2 rfl) ?_
  refine g_getI hx hb hts inlX2 hown hK hP b2 (fr_0 ib2) rfl 2 (by decide) (hts _ wm_33_14) rfl dX2_becomeDifference_8 ?_
  refine lv_if_eq (tgt := 21) hx hb dX2_becomeDifference_11 (by decide) (fun q => ?_) (fun q => ?_)
  · exact wX2_becomeDifference_s21 C n b b1 b2 ib ib1 ib2 st res (it hf q) H locs ls (lv_sub hl [0, 1, 2] rfl) hP hS
  · exact wX2_becomeDifference_s14 C n b b1 b2 ib ib1 ib2 st res (ie hf q) H locs ls (lv_sub hl [0] rfl) hP hS
def fX2_becomeDifference_s0 (n : Nat)  (b : Nat) (b1 : Nat) (b2 : Nat)  (st : St) : Option (Unit × St) := if (st.1 b1 2) = 0 then fX2_becomeDifference_s7 n b b1 b2 st else fX2_becomeDifference_s14 n b b1 b2 st
set_option maxHeartbeats 4000000 in
set_option maxRecDepth 100000 in
theorem wX2_becomeDifference_s0 (C : Cx p s m args meth c cX2_becomeDifference 3 wsL_law RX2 none D G ad) (n : Nat)  (b : Nat) (b1 : Nat) (b2 : Nat)  (ib : isFr b) (ib1 : isFr b1) (ib2 : isFr b2)  (st : St) (res : (Unit × St))  (hf : fX2_becomeDifference_s0 n  b b1 b2  st = some res) : At p l e (rmK 2) s m args below meth c D G ad (MQV D G ad below args s res) 3 st [(0, .ref (ad b)), (1, .ref (ad b1)), (2, .ref (ad b2))] 0 [] := by
  obtain ⟨hx, hb, hml, hown, hts, hr, hlk, hK, had, hSt⟩ := id C
  intro H locs ls hl hP hS
  unfold fX2_becomeDifference_s0 at hf
  refine lv_aload_n hx hb dX2_becomeDifference_0 rfl (lv_at hl 1 rfl) ?_
  refine g_getI hx hb hts inlX2 hown hK hP b1 (fr_0 ib1) rfl 2 (by decide) (hts _ wm_33_14) rfl dX2_becomeDifference_1 ?_
  refine lv_if_ne (tgt := 14) hx hb dX2_becomeDifference_4 (by decide) (fun q => ?_) (fun q => ?_)
  · exact wX2_becomeDifference_s14 C n b b1 b2 ib ib1 ib2 st res (ie hf q) H locs ls (lv_sub hl [0] rfl) hP hS
  · exact wX2_becomeDifference_s7 C n b b1 b2 ib ib1 ib2 st res (it hf q) H locs ls (lv_sub hl [0, 1, 2] rfl) hP hS
def fX2_becomeDifference (n : Nat) (b : Nat) (b1 : Nat) (b2 : Nat)  (st : St) : Option (Unit × St) := fX2_becomeDifference_s0 n b b1 b2 st
theorem okX2_becomeDifference : okY yX2_becomeDifference RX2 2 := by unfold okY; decide +kernel
end
set_option maxRecDepth 100000 in
theorem kX2_becomeDifference (l : Launch) (D : va_G) (G : G3) (ad : Nat → Nat) (had : Adr ad) (n : Nat) (b : Nat) (b1 : Nat) (b2 : Nat) (ib : isFr b) (ib1 : isFr b1) (ib2 : isFr b2)  (st : St) (res : (Unit × St)) (hf : fX2_becomeDifference n b b1 b2  st = some res) {sz : Nat} : CtV l yX2_becomeDifference (wsU yX2_becomeDifference cX2_becomeDifference 3 none) (rmK 2) D G ad sz [.ref (ad b), .ref (ad b1), .ref (ad b2)] st res := by
  refine Met.ofW (cc := cX2_becomeDifference) (maxL := 3) (ret := none) (by decide) rfl ?_
  intro p e s m args below meth c s₁ B hml hv
  obtain ⟨rfl, hsz, hP, hK, hSt⟩ := hv
  have hts := atoms_spec (ws := wsU yX2_becomeDifference cX2_becomeDifference 3 none) B.pre
  have C : Cx p s m _ meth c cX2_becomeDifference 3 wsL_law RX2 none D G ad := ⟨B.exec, B.bytes, hml, findClass_of_methodNamed B.named, fun w h => hts w (List.mem_cons_of_mem _ h), B.returns, B.notSynchronized, hK, had, hSt⟩
  subst hsz
  have hl := lv_entry ([.ref (ad b), .ref (ad b1), .ref (ad b2)]) (n := 3) (Nat.le_of_ble_eq_true rfl)
  rw [lg_entry_eq]
  generalize (lg_sl ([.ref (ad b), .ref (ad b1), .ref (ad b2)]) ++ List.replicate (3 - (lg_sl ([.ref (ad b), .ref (ad b1), .ref (ad b2)])).length) Slot.unset).toArray = ls at hl ⊢
  exact wX2_becomeDifference_s0 C n b b1 b2  ib ib1 ib2  st res hf s.heap [] ls (lv_sub hl [0, 1, 2] rfl) hP va_S.rf
section
variable {p : Program} {l : Launch} {e : Env} {s : State} {m : MethodId} {args : Array Value} {below : List Frame} {meth : Method} {c : Code} {D : va_G} {G : G3} {ad : Nat → Nat}
def fX2_becomeProduct_s43 (n : Nat)  (b : Nat) (b1 : Nat) (b2 : Nat)  (st : St) : Option (Unit × St) := some ((), st)
set_option maxHeartbeats 4000000 in
set_option maxRecDepth 100000 in
theorem wX2_becomeProduct_s43 (C : Cx p s m args meth c cX2_becomeProduct 3 wsL_law RX2 none D G ad) (n : Nat)  (b : Nat) (b1 : Nat) (b2 : Nat)  (ib : isFr b) (ib1 : isFr b1) (ib2 : isFr b2)  (st : St) (res : (Unit × St))  (hf : fX2_becomeProduct_s43 n  b b1 b2  st = some res) : At p l e (rmK 2) s m args below meth c D G ad (MQV D G ad below args s res) 3 st [] 43 [] := by
  obtain ⟨hx, hb, hml, hown, hts, hr, hlk, hK, had, hSt⟩ := id C
  intro H locs ls hl hP hS
  unfold fX2_becomeProduct_s43 at hf
  exact g_vret hx hb hr hlk hP hS dX2_becomeProduct_43 hf
def fX2_becomeProduct_s18 (n : Nat)  (b : Nat) (b1 : Nat) (b2 : Nat)  (st : St) : Option (Unit × St) := fX2_becomeProduct_s43 n b b1 b2 st
set_option maxHeartbeats 4000000 in
set_option maxRecDepth 100000 in
theorem wX2_becomeProduct_s18 (C : Cx p s m args meth c cX2_becomeProduct 3 wsL_law RX2 none D G ad) (n : Nat)  (b : Nat) (b1 : Nat) (b2 : Nat)  (ib : isFr b) (ib1 : isFr b1) (ib2 : isFr b2)  (st : St) (res : (Unit × St))  (hf : fX2_becomeProduct_s18 n  b b1 b2  st = some res) : At p l e (rmK 2) s m args below meth c D G ad (MQV D G ad below args s res) 3 st [] 18 [] := by
  obtain ⟨hx, hb, hml, hown, hts, hr, hlk, hK, had, hSt⟩ := id C
  intro H locs ls hl hP hS
  unfold fX2_becomeProduct_s18 at hf
  refine lv_goto (tgt := 43) hx hb dX2_becomeProduct_18 (by decide) ?_
  exact wX2_becomeProduct_s43 C n b b1 b2 ib ib1 ib2 st res hf H locs ls (lv_sub hl [] rfl) hP hS
def fX2_becomeProduct_s14 (n : Nat)  (b : Nat) (b1 : Nat) (b2 : Nat)  (st : St) : Option (Unit × St) := (fX2_spend n b st).bind (fun q => fX2_becomeProduct_s18 n b b1 b2 q.2)
set_option maxHeartbeats 4000000 in
set_option maxRecDepth 100000 in
theorem wX2_becomeProduct_s14 (C : Cx p s m args meth c cX2_becomeProduct 3 wsL_law RX2 none D G ad) (n : Nat)  (b : Nat) (b1 : Nat) (b2 : Nat)  (ib : isFr b) (ib1 : isFr b1) (ib2 : isFr b2)  (st : St) (res : (Unit × St))  (hf : fX2_becomeProduct_s14 n  b b1 b2  st = some res) : At p l e (rmK 2) s m args below meth c D G ad (MQV D G ad below args s res) 3 st [(0, .ref (ad b))] 14 [] := by
  obtain ⟨hx, hb, hml, hown, hts, hr, hlk, hK, had, hSt⟩ := id C
  intro H locs ls hl hP hS
  unfold fX2_becomeProduct_s14 at hf
  refine lv_aload_n hx hb dX2_becomeProduct_14 rfl (lv_at hl 0 rfl) ?_
  obtain ⟨q, hq, hf⟩ := bd hf
  refine gcV_v (k := 0) (o := b) (As := []) (rest := []) hx hb hml hown hts hK hSt hP hS hl.1 (goodV wm_33_18 wm_33_19 wm_33_20 wm_2_15 wm_33_21) okX2_spend (fr_0 ib) rfl rfl (Nat.le_of_ble_eq_true rfl) (Nat.le_of_ble_eq_true rfl) rfl rfl (Nat.le_of_ble_eq_true rfl) dX2_becomeProduct_15 (kX2_spend l D G ad had n b ib  st q hq) (fun H locs hP hS => ?_)
  exact wX2_becomeProduct_s18 C n b b1 b2 ib ib1 ib2 q.2 res hf H locs ls (lv_sub hl [] rfl) hP hS
def fX2_becomeProduct_s21 (n : Nat)  (b : Nat) (b1 : Nat) (b2 : Nat)  (st : St) : Option (Unit × St) := (fX2_become n b ((st.2 b1 0) * (st.2 b2 0)) ((st.2 b1 1) * (st.2 b2 1)) st).bind (fun q => fX2_becomeProduct_s43 n b b1 b2 q.2)
set_option maxHeartbeats 4000000 in
set_option maxRecDepth 100000 in
theorem wX2_becomeProduct_s21 (C : Cx p s m args meth c cX2_becomeProduct 3 wsL_law RX2 none D G ad) (n : Nat)  (b : Nat) (b1 : Nat) (b2 : Nat)  (ib : isFr b) (ib1 : isFr b1) (ib2 : isFr b2)  (st : St) (res : (Unit × St))  (hf : fX2_becomeProduct_s21 n  b b1 b2  st = some res) : At p l e (rmK 2) s m args below meth c D G ad (MQV D G ad below args s res) 3 st [(0, .ref (ad b)), (1, .ref (ad b1)), (2, .ref (ad b2))] 21 [] := by
  obtain ⟨hx, hb, hml, hown, hts, hr, hlk, hK, had, hSt⟩ := id C
  intro H locs ls hl hP hS
  unfold fX2_becomeProduct_s21 at hf
  refine lv_aload_n hx hb dX2_becomeProduct_21 rfl (lv_at hl 0 rfl) ?_
  refine lv_aload_n hx hb dX2_becomeProduct_22 rfl (lv_at hl 1 rfl) ?_
  refine g_getJ hx hb hts inlX2 hown hK hP b1 (fr_0 ib1) rfl 0 (by decide) (hts _ wm_33_12) rfl dX2_becomeProduct_23 ?_
  refine lv_aload_n hx hb dX2_becomeProduct_26 rfl (lv_at hl 2 rfl) ?_
  refine g_getJ hx hb hts inlX2 hown hK hP b2 (fr_0 ib2) rfl 0 (by decide) (hts _ wm_33_12) rfl dX2_becomeProduct_27 ?_
  refine lv_lmul hx hb dX2_becomeProduct_30 ?_
  refine lv_aload_n hx hb dX2_becomeProduct_31 rfl (lv_at hl 1 rfl) ?_
  refine g_getJ hx hb hts inlX2 hown hK hP b1 (fr_0 ib1) rfl 1 (by decide) (hts _ wm_5_17) rfl dX2_becomeProduct_32 ?_
  refine lv_aload_n hx hb dX2_becomeProduct_35 rfl (lv_at hl 2 rfl) ?_
  refine g_getJ hx hb hts inlX2 hown hK hP b2 (fr_0 ib2) rfl 1 (by decide) (hts _ wm_5_17) rfl dX2_becomeProduct_36 ?_
  refine lv_lmul hx hb dX2_becomeProduct_39 ?_
  obtain ⟨q, hq, hf⟩ := bd hf
  refine gcV_v (k := 1) (o := b) (As := [.long ((st.2 b1 0) * (st.2 b2 0)), .long ((st.2 b1 1) * (st.2 b2 1))]) (rest := []) hx hb hml hown hts hK hSt hP hS hl.1 (goodV wm_36_0 wm_33_6 wm_33_7 wm_2_15 wm_33_8) okX2_become (fr_0 ib) rfl rfl (Nat.le_of_ble_eq_true rfl) (Nat.le_of_ble_eq_true rfl) rfl rfl (Nat.le_of_ble_eq_true rfl) dX2_becomeProduct_40 (kX2_become l D G ad had n b ib ((st.2 b1 0) * (st.2 b2 0)) ((st.2 b1 1) * (st.2 b2 1)) st q hq) (fun H locs hP hS => ?_)
  exact wX2_becomeProduct_s43 C n b b1 b2 ib ib1 ib2 q.2 res hf H locs ls (lv_sub hl [] rfl) hP hS
def fX2_becomeProduct_s7 (n : Nat)  (b : Nat) (b1 : Nat) (b2 : Nat)  (st : St) : Option (Unit × St) := if (st.1 b2 2) = 0 then fX2_becomeProduct_s21 n b b1 b2 st else fX2_becomeProduct_s14 n b b1 b2 st
set_option maxHeartbeats 4000000 in
set_option maxRecDepth 100000 in
theorem wX2_becomeProduct_s7 (C : Cx p s m args meth c cX2_becomeProduct 3 wsL_law RX2 none D G ad) (n : Nat)  (b : Nat) (b1 : Nat) (b2 : Nat)  (ib : isFr b) (ib1 : isFr b1) (ib2 : isFr b2)  (st : St) (res : (Unit × St))  (hf : fX2_becomeProduct_s7 n  b b1 b2  st = some res) : At p l e (rmK 2) s m args below meth c D G ad (MQV D G ad below args s res) 3 st [(0, .ref (ad b)), (1, .ref (ad b1)), (2, .ref (ad b2))] 7 [] := by
  obtain ⟨hx, hb, hml, hown, hts, hr, hlk, hK, had, hSt⟩ := id C
  intro H locs ls hl hP hS
  unfold fX2_becomeProduct_s7 at hf
  refine lv_aload_n hx hb dX2_becomeProduct_7 rfl (lv_at hl 2 rfl) ?_
  refine g_getI hx hb hts inlX2 hown hK hP b2 (fr_0 ib2) rfl 2 (by decide) (hts _ wm_33_14) rfl dX2_becomeProduct_8 ?_
  refine lv_if_eq (tgt := 21) hx hb dX2_becomeProduct_11 (by decide) (fun q => ?_) (fun q => ?_)
  · exact wX2_becomeProduct_s21 C n b b1 b2 ib ib1 ib2 st res (it hf q) H locs ls (lv_sub hl [0, 1, 2] rfl) hP hS
  · exact wX2_becomeProduct_s14 C n b b1 b2 ib ib1 ib2 st res (ie hf q) H locs ls (lv_sub hl [0] rfl) hP hS
def fX2_becomeProduct_s0 (n : Nat)  (b : Nat) (b1 : Nat) (b2 : Nat)  (st : St) : Option (Unit × St) := if (st.1 b1 2) = 0 then fX2_becomeProduct_s7 n b b1 b2 st else fX2_becomeProduct_s14 n b b1 b2 st
set_option maxHeartbeats 4000000 in
set_option maxRecDepth 100000 in
theorem wX2_becomeProduct_s0 (C : Cx p s m args meth c cX2_becomeProduct 3 wsL_law RX2 none D G ad) (n : Nat)  (b : Nat) (b1 : Nat) (b2 : Nat)  (ib : isFr b) (ib1 : isFr b1) (ib2 : isFr b2)  (st : St) (res : (Unit × St))  (hf : fX2_becomeProduct_s0 n  b b1 b2  st = some res) : At p l e (rmK 2) s m args below meth c D G ad (MQV D G ad below args s res) 3 st [(0, .ref (ad b)), (1, .ref (ad b1)), (2, .ref (ad b2))] 0 [] := by
  obtain ⟨hx, hb, hml, hown, hts, hr, hlk, hK, had, hSt⟩ := id C
  intro H locs ls hl hP hS
  unfold fX2_becomeProduct_s0 at hf
  refine lv_aload_n hx hb dX2_becomeProduct_0 rfl (lv_at hl 1 rfl) ?_
  refine g_getI hx hb hts inlX2 hown hK hP b1 (fr_0 ib1) rfl 2 (by decide) (hts _ wm_33_14) rfl dX2_becomeProduct_1 ?_
  refine lv_if_ne (tgt := 14) hx hb dX2_becomeProduct_4 (by decide) (fun q => ?_) (fun q => ?_)
  · exact wX2_becomeProduct_s14 C n b b1 b2 ib ib1 ib2 st res (ie hf q) H locs ls (lv_sub hl [0] rfl) hP hS
  · exact wX2_becomeProduct_s7 C n b b1 b2 ib ib1 ib2 st res (it hf q) H locs ls (lv_sub hl [0, 1, 2] rfl) hP hS
def fX2_becomeProduct (n : Nat) (b : Nat) (b1 : Nat) (b2 : Nat)  (st : St) : Option (Unit × St) := fX2_becomeProduct_s0 n b b1 b2 st
theorem okX2_becomeProduct : okY yX2_becomeProduct RX2 2 := by unfold okY; decide +kernel
end
set_option maxRecDepth 100000 in
theorem kX2_becomeProduct (l : Launch) (D : va_G) (G : G3) (ad : Nat → Nat) (had : Adr ad) (n : Nat) (b : Nat) (b1 : Nat) (b2 : Nat) (ib : isFr b) (ib1 : isFr b1) (ib2 : isFr b2)  (st : St) (res : (Unit × St)) (hf : fX2_becomeProduct n b b1 b2  st = some res) {sz : Nat} : CtV l yX2_becomeProduct (wsU yX2_becomeProduct cX2_becomeProduct 3 none) (rmK 2) D G ad sz [.ref (ad b), .ref (ad b1), .ref (ad b2)] st res := by
  refine Met.ofW (cc := cX2_becomeProduct) (maxL := 3) (ret := none) (by decide) rfl ?_
  intro p e s m args below meth c s₁ B hml hv
  obtain ⟨rfl, hsz, hP, hK, hSt⟩ := hv
  have hts := atoms_spec (ws := wsU yX2_becomeProduct cX2_becomeProduct 3 none) B.pre
  have C : Cx p s m _ meth c cX2_becomeProduct 3 wsL_law RX2 none D G ad := ⟨B.exec, B.bytes, hml, findClass_of_methodNamed B.named, fun w h => hts w (List.mem_cons_of_mem _ h), B.returns, B.notSynchronized, hK, had, hSt⟩
  subst hsz
  have hl := lv_entry ([.ref (ad b), .ref (ad b1), .ref (ad b2)]) (n := 3) (Nat.le_of_ble_eq_true rfl)
  rw [lg_entry_eq]
  generalize (lg_sl ([.ref (ad b), .ref (ad b1), .ref (ad b2)]) ++ List.replicate (3 - (lg_sl ([.ref (ad b), .ref (ad b1), .ref (ad b2)])).length) Slot.unset).toArray = ls at hl ⊢
  exact wX2_becomeProduct_s0 C n b b1 b2  ib ib1 ib2  st res hf s.heap [] ls (lv_sub hl [0, 1, 2] rfl) hP va_S.rf
section
variable {p : Program} {l : Launch} {e : Env} {s : State} {m : MethodId} {args : Array Value} {below : List Frame} {meth : Method} {c : Code} {D : va_G} {G : G3} {ad : Nat → Nat}
def fX2_tell_s28 (n : Nat)  (b : Nat) (k0 : Int64) (st : St) : Option (Int64 × St) := some (k0, st)
set_option maxHeartbeats 4000000 in
set_option maxRecDepth 100000 in
theorem wX2_tell_s28 (C : Cx p s m args meth c cX2_tell 2 wsL_law RX2 (some .long) D G ad) (n : Nat)  (b : Nat) (k0 : Int64) (ib : isFr b)  (st : St) (res : (Int64 × St))  (hf : fX2_tell_s28 n  b k0 st = some res) : At p l e (rmK 0) s m args below meth c D G ad (MQJ D G ad below args s res) 2 st [] 28 [.long k0] := by
  obtain ⟨hx, hb, hml, hown, hts, hr, hlk, hK, had, hSt⟩ := id C
  intro H locs ls hl hP hS
  unfold fX2_tell_s28 at hf
  exact g_lret hx hb hr hlk hP hS dX2_tell_28 hf
def fX2_tell_s24 (n : Nat)  (b : Nat)  (st : St) : Option (Int64 × St) := fX2_tell_s28 n b (st.2 b 1) st
set_option maxHeartbeats 4000000 in
set_option maxRecDepth 100000 in
theorem wX2_tell_s24 (C : Cx p s m args meth c cX2_tell 2 wsL_law RX2 (some .long) D G ad) (n : Nat)  (b : Nat)  (ib : isFr b)  (st : St) (res : (Int64 × St))  (hf : fX2_tell_s24 n  b  st = some res) : At p l e (rmK 0) s m args below meth c D G ad (MQJ D G ad below args s res) 2 st [(0, .ref (ad b))] 24 [] := by
  obtain ⟨hx, hb, hml, hown, hts, hr, hlk, hK, had, hSt⟩ := id C
  intro H locs ls hl hP hS
  unfold fX2_tell_s24 at hf
  refine lv_aload_n hx hb dX2_tell_24 rfl (lv_at hl 0 rfl) ?_
  refine g_getJ hx hb hts inlX2 hown hK hP b (fr_0 ib) rfl 1 (by decide) (hts _ wm_5_17) rfl dX2_tell_25 ?_
  exact wX2_tell_s28 C n b (st.2 b 1) ib st res hf H locs ls (lv_sub hl [] rfl) hP hS
def fX2_tell_s17 (n : Nat)  (b : Nat)  (st : St) : Option (Int64 × St) := fX2_tell_s28 n b (st.2 b 0) st
set_option maxHeartbeats 4000000 in
set_option maxRecDepth 100000 in
theorem wX2_tell_s17 (C : Cx p s m args meth c cX2_tell 2 wsL_law RX2 (some .long) D G ad) (n : Nat)  (b : Nat)  (ib : isFr b)  (st : St) (res : (Int64 × St))  (hf : fX2_tell_s17 n  b  st = some res) : At p l e (rmK 0) s m args below meth c D G ad (MQJ D G ad below args s res) 2 st [(0, .ref (ad b))] 17 [] := by
  obtain ⟨hx, hb, hml, hown, hts, hr, hlk, hK, had, hSt⟩ := id C
  intro H locs ls hl hP hS
  unfold fX2_tell_s17 at hf
  refine lv_aload_n hx hb dX2_tell_17 rfl (lv_at hl 0 rfl) ?_
  refine g_getJ hx hb hts inlX2 hown hK hP b (fr_0 ib) rfl 0 (by decide) (hts _ wm_33_12) rfl dX2_tell_18 ?_
  refine lv_goto (tgt := 28) hx hb dX2_tell_21 (by decide) ?_
  exact wX2_tell_s28 C n b (st.2 b 0) ib st res hf H locs ls (lv_sub hl [] rfl) hP hS
def fX2_tell_s13 (n : Nat)  (b : Nat) (v1 : Int32) (st : St) : Option (Int64 × St) := if v1 = 0 then fX2_tell_s17 n b st else fX2_tell_s24 n b st
set_option maxHeartbeats 4000000 in
set_option maxRecDepth 100000 in
theorem wX2_tell_s13 (C : Cx p s m args meth c cX2_tell 2 wsL_law RX2 (some .long) D G ad) (n : Nat)  (b : Nat) (v1 : Int32) (ib : isFr b)  (st : St) (res : (Int64 × St))  (hf : fX2_tell_s13 n  b v1 st = some res) : At p l e (rmK 0) s m args below meth c D G ad (MQJ D G ad below args s res) 2 st [(0, .ref (ad b)), (1, .int v1)] 13 [] := by
  obtain ⟨hx, hb, hml, hown, hts, hr, hlk, hK, had, hSt⟩ := id C
  intro H locs ls hl hP hS
  unfold fX2_tell_s13 at hf
  refine lv_iload_n hx hb dX2_tell_13 rfl (lv_at hl 1 rfl) ?_
  refine lv_if_ne (tgt := 24) hx hb dX2_tell_14 (by decide) (fun q => ?_) (fun q => ?_)
  · exact wX2_tell_s24 C n b ib st res (ie hf q) H locs ls (lv_sub hl [0] rfl) hP hS
  · exact wX2_tell_s17 C n b ib st res (it hf q) H locs ls (lv_sub hl [0] rfl) hP hS
def fX2_tell_s7 (n : Nat)  (b : Nat)  (st : St) : Option (Int64 × St) := fX2_tell_s28 n b (-9223372036854775807) st
set_option maxHeartbeats 4000000 in
set_option maxRecDepth 100000 in
theorem wX2_tell_s7 (C : Cx p s m args meth c cX2_tell 2 wsL_law RX2 (some .long) D G ad) (n : Nat)  (b : Nat)  (ib : isFr b)  (st : St) (res : (Int64 × St))  (hf : fX2_tell_s7 n  b  st = some res) : At p l e (rmK 0) s m args below meth c D G ad (MQJ D G ad below args s res) 2 st [] 7 [] := by
  obtain ⟨hx, hb, hml, hown, hts, hr, hlk, hK, had, hSt⟩ := id C
  intro H locs ls hl hP hS
  unfold fX2_tell_s7 at hf
  refine lv_ldc2 hx hb hown (hts _ wm_34_2) dX2_tell_7 ?_
  refine lv_goto (tgt := 28) hx hb dX2_tell_10 (by decide) ?_
  exact wX2_tell_s28 C n b (-9223372036854775807) ib st res hf H locs ls (lv_sub hl [] rfl) hP hS
def fX2_tell_s0 (n : Nat)  (b : Nat) (v1 : Int32) (st : St) : Option (Int64 × St) := if (st.1 b 2) = 0 then fX2_tell_s13 n b v1 st else fX2_tell_s7 n b st
set_option maxHeartbeats 4000000 in
set_option maxRecDepth 100000 in
theorem wX2_tell_s0 (C : Cx p s m args meth c cX2_tell 2 wsL_law RX2 (some .long) D G ad) (n : Nat)  (b : Nat) (v1 : Int32) (ib : isFr b)  (st : St) (res : (Int64 × St))  (hf : fX2_tell_s0 n  b v1 st = some res) : At p l e (rmK 0) s m args below meth c D G ad (MQJ D G ad below args s res) 2 st [(0, .ref (ad b)), (1, .int v1)] 0 [] := by
  obtain ⟨hx, hb, hml, hown, hts, hr, hlk, hK, had, hSt⟩ := id C
  intro H locs ls hl hP hS
  unfold fX2_tell_s0 at hf
  refine lv_aload_n hx hb dX2_tell_0 rfl (lv_at hl 0 rfl) ?_
  refine g_getI hx hb hts inlX2 hown hK hP b (fr_0 ib) rfl 2 (by decide) (hts _ wm_33_14) rfl dX2_tell_1 ?_
  refine lv_if_eq (tgt := 13) hx hb dX2_tell_4 (by decide) (fun q => ?_) (fun q => ?_)
  · exact wX2_tell_s13 C n b v1 ib st res (it hf q) H locs ls (lv_sub hl [0, 1] rfl) hP hS
  · exact wX2_tell_s7 C n b ib st res (ie hf q) H locs ls (lv_sub hl [] rfl) hP hS
def fX2_tell (n : Nat) (b : Nat) (a1 : Int32) (st : St) : Option (Int64 × St) := fX2_tell_s0 n b a1 st
theorem okX2_tell : okY yX2_tell RX2 1 := by unfold okY; decide +kernel
end
set_option maxRecDepth 100000 in
theorem kX2_tell (l : Launch) (D : va_G) (G : G3) (ad : Nat → Nat) (had : Adr ad) (n : Nat) (b : Nat) (ib : isFr b) (a1 : Int32) (st : St) (res : (Int64 × St)) (hf : fX2_tell n b a1 st = some res) {sz : Nat} : CtJ l yX2_tell (wsU yX2_tell cX2_tell 2 (some .long)) (rmK 0) D G ad sz [.ref (ad b), .int a1] st res := by
  refine Met.ofW (cc := cX2_tell) (maxL := 2) (ret := (some .long)) (by decide) rfl ?_
  intro p e s m args below meth c s₁ B hml hv
  obtain ⟨rfl, hsz, hP, hK, hSt⟩ := hv
  have hts := atoms_spec (ws := wsU yX2_tell cX2_tell 2 (some .long)) B.pre
  have C : Cx p s m _ meth c cX2_tell 2 wsL_law RX2 (some .long) D G ad := ⟨B.exec, B.bytes, hml, findClass_of_methodNamed B.named, fun w h => hts w (List.mem_cons_of_mem _ h), B.returns, B.notSynchronized, hK, had, hSt⟩
  subst hsz
  have hl := lv_entry ([.ref (ad b), .int a1]) (n := 2) (Nat.le_of_ble_eq_true rfl)
  rw [lg_entry_eq]
  generalize (lg_sl ([.ref (ad b), .int a1]) ++ List.replicate (2 - (lg_sl ([.ref (ad b), .int a1])).length) Slot.unset).toArray = ls at hl ⊢
  exact wX2_tell_s0 C n b a1 ib  st res hf s.heap [] ls (lv_sub hl [0, 1] rfl) hP va_S.rf
