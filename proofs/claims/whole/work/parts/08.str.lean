theorem wm_27_19 : Cond.initialized RJ0 ∈ wsL_law := in_r27 _ (mm_at 19 rfl)
theorem wm_27_21 : Cond.fieldLink RJ0 9 "java/lang/String" "value" "[B" ∈ wsL_law := in_r27 _ (mm_at 21 rfl)
theorem wm_27_22 : Cond.methodLink RJ0 335 yJ0_coder_7d493 ∈ wsL_law := in_r27 _ (mm_at 22 rfl)
theorem wm_27_23 : Cond.instanceMethod yJ0_coder_7d493 ∈ wsL_law := in_r27 _ (mm_at 23 rfl)
theorem wm_28_0 : Cond.selects RJ0 yJ0_coder_7d493 yJ0_coder_7d493 ∈ wsL_law := in_r28 _ (mm_at 0 rfl)
theorem wm_28_1 : Cond.code yJ0_coder_7d493 cJ0_coder_7d493 1 (some .byte) ∈ wsL_law := in_r28 _ (mm_at 1 rfl)
theorem wm_28_2 : Cond.fieldLink RJ0 38 "java/lang/String" "COMPACT_STRINGS" "Z" ∈ wsL_law := in_r28 _ (mm_at 2 rfl)
theorem wm_28_3 : Cond.fieldLink RJ0 15 "java/lang/String" "coder" "B" ∈ wsL_law := in_r28 _ (mm_at 3 rfl)
theorem wm_28_8 : Cond.methodLink RJ0 492 yJ0_isLatin1_aae02 ∈ wsL_law := in_r28 _ (mm_at 8 rfl)
theorem wm_28_9 : Cond.instanceMethod yJ0_isLatin1_aae02 ∈ wsL_law := in_r28 _ (mm_at 9 rfl)
theorem wm_28_10 : Cond.selects RJ0 yJ0_isLatin1_aae02 yJ0_isLatin1_aae02 ∈ wsL_law := in_r28 _ (mm_at 10 rfl)
theorem wm_28_11 : Cond.code yJ0_isLatin1_aae02 cJ0_isLatin1_aae02 1 (some .boolean) ∈ wsL_law := in_r28 _ (mm_at 11 rfl)
theorem wm_28_12 : Cond.methodLink RJ0 495 yJ1_charAt_3b067 ∈ wsL_law := in_r28 _ (mm_at 12 rfl)
theorem wm_28_13 : Cond.static yJ1_charAt_3b067 ∈ wsL_law := in_r28 _ (mm_at 13 rfl)
theorem wm_28_14 : Cond.initialized RJ1 ∈ wsL_law := in_r28 _ (mm_at 14 rfl)
theorem wm_28_15 : Cond.code yJ1_charAt_3b067 cJ1_charAt_3b067 2 (some .char) ∈ wsL_law := in_r28 _ (mm_at 15 rfl)
theorem wm_28_16 : Cond.methodLink RJ1 9 yJ0_checkIndex_df160 ∈ wsL_law := in_r28 _ (mm_at 16 rfl)
theorem wm_28_17 : Cond.static yJ0_checkIndex_df160 ∈ wsL_law := in_r28 _ (mm_at 17 rfl)
theorem wm_28_18 : Cond.code yJ0_checkIndex_df160 cJ0_checkIndex_df160 2 none ∈ wsL_law := in_r28 _ (mm_at 18 rfl)
theorem wm_28_19 : Cond.fieldLink RJ0 1053 "jdk/internal/util/Preconditions" "SIOOBE_FORMATTER" "Ljava/util/function/BiFunction;" ∈ wsL_law := in_r28 _ (mm_at 19 rfl)
theorem wm_28_20 : Cond.methodLink RJ0 1059 yJ3_checkIndex_8e157 ∈ wsL_law := in_r28 _ (mm_at 20 rfl)
theorem wm_28_21 : Cond.static yJ3_checkIndex_8e157 ∈ wsL_law := in_r28 _ (mm_at 21 rfl)
theorem wm_28_22 : Cond.initialized RJ3 ∈ wsL_law := in_r28 _ (mm_at 22 rfl)
theorem wm_28_23 : Cond.code yJ3_checkIndex_8e157 cJ3_checkIndex_8e157 3 (some .int) ∈ wsL_law := in_r28 _ (mm_at 23 rfl)
section
variable {p : Program} {l : Launch} {e : Env} {R : Room} {s : State} {m : MethodId} {args : Array Value} {below : List Frame} {meth : Method} {c : Code} {H : Heap} {locs : List Loc} {cc : ByteArray} {pc : Nat} {ls : Array Slot} {D : va_G} {G : G3} {ad : Nat → Nat} {st : St}
theorem g_nret {res : Int32 × St} {v : Int32} {ty : FieldType} (hx : p.tables.exec = Jvm.exec) (hb : c.code = cc) (hr : meth.sig.returnType = some ty) (hn : narrow ty (.int v) = .int v) (hlk : meth.locks = false) (hP : va_P D vwCl (SW G ad st) H) (hS : va_S (AA ad s.heap.size) s.heap H locs) (hdg : decode cc pc = .ok (.ireturn, 1)) (hf : some (v, st) = some res) : W p l e R s m args below meth c H locs 0 0 (MQI D G ad below args s res) (F0 m pc ls [.int v]) := by
  cases hf
  exact W.zret hx hb hr hn (fun t ht _ => ⟨⟨v, st, rfl, ⟨rfl, rfl⟩, by unfold We; rw [ht]; exact hP⟩, hS.F ht⟩) hS.2.2 hdg hlk
end
def wch (i : Int32) : Int32 := (wordsB.getD i.toNatClampNeg 0) &&& 255
def fJ0_coder_7d493 (n : Nat) (st : St) : Option (Int32 × St) := some (0, st)
def fJ0_isLatin1_aae02 (n : Nat) (st : St) : Option (Int32 × St) := some (1, st)
def fJ0_length_8abf5 (n : Nat) (st : St) : Option (Int32 × St) := some (44, st)
def fJ3_checkIndex_8e157 (n : Nat) (a0 a1 : Int32) (st : St) : Option (Int32 × St) := if a0 < 0 then none else if a0 < a1 then some (a0, st) else none
def fJ0_checkIndex_df160 (n : Nat) (a0 a1 : Int32) (st : St) : Option (Unit × St) := if a0 < 0 then none else if a0 < a1 then some ((), st) else none
def fJ1_charAt_3b067 (n : Nat) (a1 : Int32) (st : St) : Option (Int32 × St) := if inb a1 44 = true then some (wch a1, st) else none
def fJ0_charAt_5068e (n : Nat) (a1 : Int32) (st : St) : Option (Int32 × St) := if inb a1 44 = true then some (wch a1, st) else none
set_option maxHeartbeats 4000000 in
set_option maxRecDepth 100000 in
theorem kJ0_coder_7d493 (l : Launch) (D : va_G) (G : G3) (ad : Nat → Nat) (had : Adr ad) (n : Nat)  (st : St) (res : Int32 × St) (hf : fJ0_coder_7d493 n  st = some res) {sz : Nat} : CtI l yJ0_coder_7d493 (wsU yJ0_coder_7d493 cJ0_coder_7d493 1 (some .byte)) (rmK 0) D G ad sz [.ref (ad 177)] st res := by
  refine Met.ofW (cc := cJ0_coder_7d493) (maxL := 1) (ret := (some .byte)) (by decide) rfl ?_
  intro p e s m args below meth c s₁ B hml hv
  obtain ⟨rfl, hsz, hP, hK, hSt⟩ := hv
  have hts0 := atoms_spec (ws := wsU yJ0_coder_7d493 cJ0_coder_7d493 1 (some .byte)) B.pre
  have hts : ∀ w ∈ wsL_law, w.before _ s = true := fun w h => hts0 w (List.mem_cons_of_mem _ h)
  have hx := B.exec
  have hb := B.bytes
  have hr := B.returns
  have hlk := B.notSynchronized
  have hown : s.vm.findClass RJ0 = some m.cls := findClass_of_methodNamed B.named
  subst hsz
  have hl := lv_entry ([.ref (ad 177)]) (n := 1) (Nat.le_of_ble_eq_true rfl)
  rw [lg_entry_eq]
  generalize (lg_sl ([.ref (ad 177)]) ++ List.replicate (1 - (lg_sl ([.ref (ad 177)])).length) Slot.unset).toArray = ls at hl ⊢
  have hS : va_S (AA ad s.heap.size) s.heap s.heap [] := va_S.rf
  refine va_gets hx hb hSt.2.2.1 hS hown (hts _ wm_28_2) (fun _ h => h) dJ0_coder_7d493_0 ?_
  refine lv_if_eq (tgt := 13) hx hb dJ0_coder_7d493_3 (by decide) (fun q => absurd q (by decide)) (fun q => ?_)
  refine lv_aload_n hx hb dJ0_coder_7d493_6 rfl (lv_at hl 0 rfl) ?_
  refine vk_getf hx hb (hSt.2.1.1 0 (by decide)).2.1 hS hown (hts _ wm_28_3) (fun _ h => h) dJ0_coder_7d493_7 ?_
  refine lv_goto (tgt := 14) hx hb dJ0_coder_7d493_10 (by decide) ?_
  exact g_nret hx hb hr rfl hlk hP hS dJ0_coder_7d493_14 hf
set_option maxHeartbeats 4000000 in
set_option maxRecDepth 100000 in
theorem kJ0_isLatin1_aae02 (l : Launch) (D : va_G) (G : G3) (ad : Nat → Nat) (had : Adr ad) (n : Nat)  (st : St) (res : Int32 × St) (hf : fJ0_isLatin1_aae02 n  st = some res) {sz : Nat} : CtI l yJ0_isLatin1_aae02 (wsU yJ0_isLatin1_aae02 cJ0_isLatin1_aae02 1 (some .boolean)) (rmK 0) D G ad sz [.ref (ad 177)] st res := by
  refine Met.ofW (cc := cJ0_isLatin1_aae02) (maxL := 1) (ret := (some .boolean)) (by decide) rfl ?_
  intro p e s m args below meth c s₁ B hml hv
  obtain ⟨rfl, hsz, hP, hK, hSt⟩ := hv
  have hts0 := atoms_spec (ws := wsU yJ0_isLatin1_aae02 cJ0_isLatin1_aae02 1 (some .boolean)) B.pre
  have hts : ∀ w ∈ wsL_law, w.before _ s = true := fun w h => hts0 w (List.mem_cons_of_mem _ h)
  have hx := B.exec
  have hb := B.bytes
  have hr := B.returns
  have hlk := B.notSynchronized
  have hown : s.vm.findClass RJ0 = some m.cls := findClass_of_methodNamed B.named
  subst hsz
  have hl := lv_entry ([.ref (ad 177)]) (n := 1) (Nat.le_of_ble_eq_true rfl)
  rw [lg_entry_eq]
  generalize (lg_sl ([.ref (ad 177)]) ++ List.replicate (1 - (lg_sl ([.ref (ad 177)])).length) Slot.unset).toArray = ls at hl ⊢
  have hS : va_S (AA ad s.heap.size) s.heap s.heap [] := va_S.rf
  refine va_gets hx hb hSt.2.2.1 hS hown (hts _ wm_28_2) (fun _ h => h) dJ0_isLatin1_aae02_0 ?_
  refine lv_if_eq (tgt := 17) hx hb dJ0_isLatin1_aae02_3 (by decide) (fun q => absurd q (by decide)) (fun q => ?_)
  refine lv_aload_n hx hb dJ0_isLatin1_aae02_6 rfl (lv_at hl 0 rfl) ?_
  refine vk_getf hx hb (hSt.2.1.1 0 (by decide)).2.1 hS hown (hts _ wm_28_3) (fun _ h => h) dJ0_isLatin1_aae02_7 ?_
  refine lv_if_ne (tgt := 17) hx hb dJ0_isLatin1_aae02_10 (by decide) (fun q => absurd rfl q) (fun q => ?_)
  refine lv_iconst (v := 1) hx hb dJ0_isLatin1_aae02_13 (by decide) ?_
  refine lv_goto (tgt := 18) hx hb dJ0_isLatin1_aae02_14 (by decide) ?_
  exact g_nret hx hb hr rfl hlk hP hS dJ0_isLatin1_aae02_18 hf
section
variable {p : Program} {l : Launch} {e : Env} {s : State} {m : MethodId} {args : Array Value} {below : List Frame} {meth : Method} {c : Code} {H H0 : Heap} {locs : List Loc} {Q : State → Prop} {cc : ByteArray} {pc : Nat} {ls : Array Slot} {rest : List Value} {D : va_G} {G : G3} {ad : Nat → Nat} {st : St} {y : MethodName} {bytes : ByteArray} {maxL n index nL k j : Nat} {ret : Option FieldType} {own C : String} {As stk : List Value}
/-- a method of the text -/
theorem gcK_i {res : Int32 × St} (hx : p.tables.exec = Jvm.exec) (hb : c.code = cc) (hml : c.maxLocals = nL) (hown : s.vm.findClass own = some m.cls) (hts : ∀ w ∈ wsL_law, w.before args s = true) (hK : KK D G s) (hSt : Str ad s) (hP : va_P D vwCl (SW G ad st) H) (hS : va_S (AA ad s.heap.size) s.heap H locs) (hl : ls.size = nL)
    (hG : GoodIn wsL_law (wsV own index "java/lang/String" y (wsU y bytes maxL ret))) (hy : okY y "java/lang/String" n) (hk : k < j) (hL : maxL ≤ 31) (hn : As.length = n) (hstk : stk = As.reverse ++ .ref (ad 177) :: rest) (hr : (rest.map fun v => v.category).sum ≤ 8) (hdg : decode cc pc = .ok (.invokevirtual index, 3))
    (hM : CtI l y (wsU y bytes maxL ret) (rmK k) D G ad H.size (.ref (ad 177) :: As) st res)
    (kk : ∀ (H1 : Heap) (locs1 : List Loc), va_P D vwCl (SW G ad res.2) H1 → va_S (AA ad s.heap.size) s.heap H1 locs1 → W p l e (rmK j) s m args below meth c H1 locs1 0 0 Q (F0 m (pc + 3) ls (.int res.1 :: rest))) : W p l e (rmK j) s m args below meth c H locs 0 0 Q (F0 m pc ls stk) := by
  subst hstk
  refine va_calli (va_runV (As := As) (rest := rest) ⟨hx, hb, hml, hown, hts⟩ hM (cwV n hts hG rfl rfl rfl hy (rmK_ok hk hL)) ⟨Wd_blind, vk_recv hSt.2.1 (i := 0) (by decide) hS, wd_of hK hSt hS hP _⟩ rfl hn hl rfl (lv_room hr) hdg ⟨Nat.le_refl _, Nat.le_refl _⟩) hS (fun q _ h => AA_mono hS.1 q h) (AA_mono hS.1) (fun r u t H1 locs1 ht hvm hw hB _ _ hS1 => ?_)
  obtain ⟨rfl, rfl⟩ := hw
  exact kk H1 locs1 (by rw [← ht]; exact hB) hS1
theorem gcT_v {res : Unit × St} (hx : p.tables.exec = Jvm.exec) (hb : c.code = cc) (hml : c.maxLocals = nL) (hown : s.vm.findClass own = some m.cls) (hts : ∀ w ∈ wsL_law, w.before args s = true) (hK : KK D G s) (hSt : Str ad s) (hP : va_P D vwCl (SW G ad st) H) (hS : va_S (AA ad s.heap.size) s.heap H locs) (hl : ls.size = nL)
    (hG : GoodIn wsL_law (wsU y bytes maxL ret)) (hst : Cond.static y ∈ wsL_law) (hin : Cond.initialized y.cls ∈ wsL_law) (hlk : Cond.methodLink own index y ∈ wsL_law) (hy : okY y C n) (hk : k < j) (hL : maxL ≤ 31) (hn : As.length = n) (hstk : stk = As.reverse ++ rest) (hr : (rest.map fun v => v.category).sum ≤ 8) (hdg : decode cc pc = .ok (.invokestatic index, 3))
    (hM : CtV l y (wsU y bytes maxL ret) (rmK k) D G ad H.size As st res)
    (kk : ∀ (H1 : Heap) (locs1 : List Loc), va_P D vwCl (SW G ad res.2) H1 → va_S (AA ad s.heap.size) s.heap H1 locs1 → W p l e (rmK j) s m args below meth c H1 locs1 0 0 Q (F0 m (pc + 3) ls rest)) : W p l e (rmK j) s m args below meth c H locs 0 0 Q (F0 m pc ls stk) := by
  subst hstk
  refine va_callv (va_runS (As := As) (rest := rest) ⟨hx, hb, hml, hown, hts⟩ hM ⟨callB_of n hts hG rfl rfl rfl (hts _ hin) (hts _ hlk) hy.2 (rmK_ok hk hL), hts _ hst⟩ ⟨Wd_blind, wd_of hK hSt hS hP _⟩ rfl hn hl rfl (lv_room hr) hdg ⟨Nat.le_refl _, Nat.le_refl _⟩) hS (fun q _ h => AA_mono hS.1 q h) (AA_mono hS.1) (fun u t H1 locs1 ht hvm hw hB _ _ hS1 => ?_)
  subst hw
  exact kk H1 locs1 (by rw [← ht]; exact hB) hS1
end
theorem okJ0_coder_7d493 : okY yJ0_coder_7d493 RJ0 0 := by unfold okY; decide +kernel
theorem okJ0_isLatin1_aae02 : okY yJ0_isLatin1_aae02 RJ0 0 := by unfold okY; decide +kernel
theorem okJ0_length_8abf5 : okY yJ0_length_8abf5 RJ0 0 := by unfold okY; decide +kernel
theorem okJ0_charAt_5068e : okY yJ0_charAt_5068e RJ0 1 := by unfold okY; decide +kernel
theorem okJ0_checkIndex_df160 : okY yJ0_checkIndex_df160 RJ0 2 := by unfold okY; decide +kernel
theorem okJ1_charAt_3b067 : okY yJ1_charAt_3b067 RJ1 2 := by unfold okY; decide +kernel
theorem okJ3_checkIndex_8e157 : okY yJ3_checkIndex_8e157 RJ3 3 := by unfold okY; decide +kernel
set_option maxHeartbeats 4000000 in
set_option maxRecDepth 100000 in
theorem kJ0_length_8abf5 (l : Launch) (D : va_G) (G : G3) (ad : Nat → Nat) (had : Adr ad) (n : Nat)  (st : St) (res : Int32 × St) (hf : fJ0_length_8abf5 n  st = some res) {sz : Nat} : CtI l yJ0_length_8abf5 (wsU yJ0_length_8abf5 cJ0_length_8abf5 1 (some .int)) (rmK 1) D G ad sz [.ref (ad 177)] st res := by
  refine Met.ofW (cc := cJ0_length_8abf5) (maxL := 1) (ret := (some .int)) (by decide) rfl ?_
  intro p e s m args below meth c s₁ B hml hv
  obtain ⟨rfl, hsz, hP, hK, hSt⟩ := hv
  have hts0 := atoms_spec (ws := wsU yJ0_length_8abf5 cJ0_length_8abf5 1 (some .int)) B.pre
  have hts : ∀ w ∈ wsL_law, w.before _ s = true := fun w h => hts0 w (List.mem_cons_of_mem _ h)
  have hx := B.exec
  have hb := B.bytes
  have hr := B.returns
  have hlk := B.notSynchronized
  have hown : s.vm.findClass RJ0 = some m.cls := findClass_of_methodNamed B.named
  subst hsz
  have hl := lv_entry ([.ref (ad 177)]) (n := 1) (Nat.le_of_ble_eq_true rfl)
  rw [lg_entry_eq]
  generalize (lg_sl ([.ref (ad 177)]) ++ List.replicate (1 - (lg_sl ([.ref (ad 177)])).length) Slot.unset).toArray = ls at hl ⊢
  have hS : va_S (AA ad s.heap.size) s.heap s.heap [] := va_S.rf
  refine lv_aload_n hx hb dJ0_length_8abf5_0 rfl (lv_at hl 0 rfl) ?_
  refine vk_getf hx hb (hSt.2.1.1 0 (by decide)).2.2.1 hS hown (hts _ wm_27_21) (fun _ h => h) dJ0_length_8abf5_1 ?_
  refine va_tlen hx hb (hSt.2.1.1 0 (by decide)).2.2.2 hS (v := 44) (by decide) dJ0_length_8abf5_4 ?_
  refine lv_aload_n hx hb dJ0_length_8abf5_5 rfl (lv_at hl 0 rfl) ?_
  refine gcK_i (k := 0) (As := []) (rest := [.int 44]) hx hb hml hown hts hK hSt hP hS hl.1 (goodV wm_27_22 wm_27_23 wm_28_0 wm_27_19 wm_28_1) okJ0_coder_7d493 (Nat.le_of_ble_eq_true rfl) (Nat.le_of_ble_eq_true rfl) rfl rfl (Nat.le_of_ble_eq_true rfl) dJ0_length_8abf5_6 (kJ0_coder_7d493 l D G ad had n st (0, st) rfl) (fun H locs hP hS => ?_)
  refine lv_ishr hx hb dJ0_length_8abf5_9 ?_
  exact g_iret hx hb hr hlk hP hS dJ0_length_8abf5_10 (by rw [← hf]; show some ((44 : Int32) >>> ((0 : Int32) &&& 31), st) = some (44, st); rw [sb_shr0])
set_option maxHeartbeats 4000000 in
set_option maxRecDepth 100000 in
theorem kJ3_checkIndex_8e157 (l : Launch) (D : va_G) (G : G3) (ad : Nat → Nat) (had : Adr ad) (n : Nat) (a0 a1 : Int32) (t : Nat) (st : St) (res : Int32 × St) (hf : fJ3_checkIndex_8e157 n a0 a1 st = some res) {sz : Nat} : CtI l yJ3_checkIndex_8e157 (wsU yJ3_checkIndex_8e157 cJ3_checkIndex_8e157 3 (some .int)) (rmK 0) D G ad sz [.int a0, .int a1, .ref t] st res := by
  refine Met.ofW (cc := cJ3_checkIndex_8e157) (maxL := 3) (ret := (some .int)) (by decide) rfl ?_
  intro p e s m args below meth c s₁ B hml hv
  obtain ⟨rfl, hsz, hP, hK, hSt⟩ := hv
  have hts0 := atoms_spec (ws := wsU yJ3_checkIndex_8e157 cJ3_checkIndex_8e157 3 (some .int)) B.pre
  have hts : ∀ w ∈ wsL_law, w.before _ s = true := fun w h => hts0 w (List.mem_cons_of_mem _ h)
  have hx := B.exec
  have hb := B.bytes
  have hr := B.returns
  have hlk := B.notSynchronized
  have hown : s.vm.findClass RJ3 = some m.cls := findClass_of_methodNamed B.named
  subst hsz
  have hl := lv_entry ([.int a0, .int a1, .ref t]) (n := 3) (Nat.le_of_ble_eq_true rfl)
  rw [lg_entry_eq]
  generalize (lg_sl ([.int a0, .int a1, .ref t]) ++ List.replicate (3 - (lg_sl ([.int a0, .int a1, .ref t])).length) Slot.unset).toArray = ls at hl ⊢
  have hS : va_S (AA ad s.heap.size) s.heap s.heap [] := va_S.rf
  have hl : lv_has ls 3 [(0, .int a0), (1, .int a1)] := lv_sub hl [0, 1] rfl
  unfold fJ3_checkIndex_8e157 at hf
  refine lv_iload_n hx hb dJ3_checkIndex_8e157_0 rfl (lv_at hl 0 rfl) ?_
  refine lv_if_lt (tgt := 9) hx hb dJ3_checkIndex_8e157_1 (by decide) (fun q => by rw [if_pos q] at hf; cases hf) (fun q => ?_)
  rw [if_neg q] at hf
  refine lv_iload_n hx hb dJ3_checkIndex_8e157_4 rfl (lv_at hl 0 rfl) ?_
  refine lv_iload_n hx hb dJ3_checkIndex_8e157_5 rfl (lv_at hl 1 rfl) ?_
  refine lv_icmp_lt (tgt := 16) hx hb dJ3_checkIndex_8e157_6 (by decide) (fun q => ?_) (fun q => by rw [if_neg q] at hf; cases hf)
  rw [if_pos q] at hf
  refine lv_iload_n hx hb dJ3_checkIndex_8e157_16 rfl (lv_at hl 0 rfl) ?_
  exact g_iret hx hb hr hlk hP hS dJ3_checkIndex_8e157_17 hf
set_option maxHeartbeats 4000000 in
set_option maxRecDepth 100000 in
theorem kJ3_checkIndex_8e157_n (l : Launch) (D : va_G) (G : G3) (ad : Nat → Nat) (had : Adr ad) (n : Nat) (a0 a1 : Int32)  (st : St) (res : Int32 × St) (hf : fJ3_checkIndex_8e157 n a0 a1 st = some res) {sz : Nat} : CtI l yJ3_checkIndex_8e157 (wsU yJ3_checkIndex_8e157 cJ3_checkIndex_8e157 3 (some .int)) (rmK 0) D G ad sz [.int a0, .int a1, .null] st res := by
  refine Met.ofW (cc := cJ3_checkIndex_8e157) (maxL := 3) (ret := (some .int)) (by decide) rfl ?_
  intro p e s m args below meth c s₁ B hml hv
  obtain ⟨rfl, hsz, hP, hK, hSt⟩ := hv
  have hts0 := atoms_spec (ws := wsU yJ3_checkIndex_8e157 cJ3_checkIndex_8e157 3 (some .int)) B.pre
  have hts : ∀ w ∈ wsL_law, w.before _ s = true := fun w h => hts0 w (List.mem_cons_of_mem _ h)
  have hx := B.exec
  have hb := B.bytes
  have hr := B.returns
  have hlk := B.notSynchronized
  have hown : s.vm.findClass RJ3 = some m.cls := findClass_of_methodNamed B.named
  subst hsz
  have hl := lv_entry ([.int a0, .int a1, .null]) (n := 3) (Nat.le_of_ble_eq_true rfl)
  rw [lg_entry_eq]
  generalize (lg_sl ([.int a0, .int a1, .null]) ++ List.replicate (3 - (lg_sl ([.int a0, .int a1, .null])).length) Slot.unset).toArray = ls at hl ⊢
  have hS : va_S (AA ad s.heap.size) s.heap s.heap [] := va_S.rf
  have hl : lv_has ls 3 [(0, .int a0), (1, .int a1)] := lv_sub hl [0, 1] rfl
  unfold fJ3_checkIndex_8e157 at hf
  refine lv_iload_n hx hb dJ3_checkIndex_8e157_0 rfl (lv_at hl 0 rfl) ?_
  refine lv_if_lt (tgt := 9) hx hb dJ3_checkIndex_8e157_1 (by decide) (fun q => by rw [if_pos q] at hf; cases hf) (fun q => ?_)
  rw [if_neg q] at hf
  refine lv_iload_n hx hb dJ3_checkIndex_8e157_4 rfl (lv_at hl 0 rfl) ?_
  refine lv_iload_n hx hb dJ3_checkIndex_8e157_5 rfl (lv_at hl 1 rfl) ?_
  refine lv_icmp_lt (tgt := 16) hx hb dJ3_checkIndex_8e157_6 (by decide) (fun q => ?_) (fun q => by rw [if_neg q] at hf; cases hf)
  rw [if_pos q] at hf
  refine lv_iload_n hx hb dJ3_checkIndex_8e157_16 rfl (lv_at hl 0 rfl) ?_
  exact g_iret hx hb hr hlk hP hS dJ3_checkIndex_8e157_17 hf
set_option maxHeartbeats 4000000 in
set_option maxRecDepth 100000 in
theorem kJ0_checkIndex_df160 (l : Launch) (D : va_G) (G : G3) (ad : Nat → Nat) (had : Adr ad) (n : Nat) (a0 a1 : Int32) (st : St) (res : Unit × St) (hf : fJ0_checkIndex_df160 n a0 a1 st = some res) {sz : Nat} : CtV l yJ0_checkIndex_df160 (wsU yJ0_checkIndex_df160 cJ0_checkIndex_df160 2 none) (rmK 1) D G ad sz [.int a0, .int a1] st res := by
  refine Met.ofW (cc := cJ0_checkIndex_df160) (maxL := 2) (ret := none) (by decide) rfl ?_
  intro p e s m args below meth c s₁ B hml hv
  obtain ⟨rfl, hsz, hP, hK, hSt⟩ := hv
  have hts0 := atoms_spec (ws := wsU yJ0_checkIndex_df160 cJ0_checkIndex_df160 2 none) B.pre
  have hts : ∀ w ∈ wsL_law, w.before _ s = true := fun w h => hts0 w (List.mem_cons_of_mem _ h)
  have hx := B.exec
  have hb := B.bytes
  have hr := B.returns
  have hlk := B.notSynchronized
  have hown : s.vm.findClass RJ0 = some m.cls := findClass_of_methodNamed B.named
  subst hsz
  have hl := lv_entry ([.int a0, .int a1]) (n := 2) (Nat.le_of_ble_eq_true rfl)
  rw [lg_entry_eq]
  generalize (lg_sl ([.int a0, .int a1]) ++ List.replicate (2 - (lg_sl ([.int a0, .int a1])).length) Slot.unset).toArray = ls at hl ⊢
  have hS : va_S (AA ad s.heap.size) s.heap s.heap [] := va_S.rf
  have h3 : fJ3_checkIndex_8e157 n a0 a1 st = some (a0, st) ∧ res = ((), st) := by
    unfold fJ0_checkIndex_df160 at hf
    unfold fJ3_checkIndex_8e157
    by_cases q : a0 < 0
    · rw [if_pos q] at hf; cases hf
    · rw [if_neg q] at hf ⊢
      by_cases q2 : a0 < a1
      · rw [if_pos q2] at hf ⊢; cases hf; exact ⟨rfl, rfl⟩
      · rw [if_neg q2] at hf; cases hf
  obtain ⟨h3, rfl⟩ := h3
  refine lv_iload_n hx hb dJ0_checkIndex_df160_0 rfl (lv_at hl 0 rfl) ?_
  refine lv_iload_n hx hb dJ0_checkIndex_df160_1 rfl (lv_at hl 1 rfl) ?_
  rcases hSt.2.2.2 with hz | ⟨t, hz⟩
  · refine va_gets hx hb hz hS hown (hts _ wm_28_19) (fun _ h => h) dJ0_checkIndex_df160_2 ?_
    refine gcT_i (k := 0) (As := [.int a0, .int a1, .null]) (rest := []) hx hb hml hown hts hK hSt hP hS hl.1 (goodU wm_28_23) wm_28_21 wm_28_22 wm_28_20 okJ3_checkIndex_8e157 (Nat.le_of_ble_eq_true rfl) (Nat.le_of_ble_eq_true rfl) rfl rfl (Nat.le_of_ble_eq_true rfl) dJ0_checkIndex_df160_5 (kJ3_checkIndex_8e157_n l D G ad had n a0 a1 st (a0, st) h3) (fun H locs hP hS => ?_)
    refine lv_pop hx hb dJ0_checkIndex_df160_8 rfl ?_
    exact g_vret hx hb hr hlk hP hS dJ0_checkIndex_df160_9 rfl
  · refine va_gets hx hb hz hS hown (hts _ wm_28_19) (fun _ h => h) dJ0_checkIndex_df160_2 ?_
    refine gcT_i (k := 0) (As := [.int a0, .int a1, .ref t]) (rest := []) hx hb hml hown hts hK hSt hP hS hl.1 (goodU wm_28_23) wm_28_21 wm_28_22 wm_28_20 okJ3_checkIndex_8e157 (Nat.le_of_ble_eq_true rfl) (Nat.le_of_ble_eq_true rfl) rfl rfl (Nat.le_of_ble_eq_true rfl) dJ0_checkIndex_df160_5 (kJ3_checkIndex_8e157 l D G ad had n a0 a1 t st (a0, st) h3) (fun H locs hP hS => ?_)
    refine lv_pop hx hb dJ0_checkIndex_df160_8 rfl ?_
    exact g_vret hx hb hr hlk hP hS dJ0_checkIndex_df160_9 rfl
set_option maxHeartbeats 4000000 in
set_option maxRecDepth 100000 in
theorem kJ1_charAt_3b067 (l : Launch) (D : va_G) (G : G3) (ad : Nat → Nat) (had : Adr ad) (n : Nat) (a1 : Int32) (st : St) (res : Int32 × St) (hf : fJ1_charAt_3b067 n a1 st = some res) {sz : Nat} : CtI l yJ1_charAt_3b067 (wsU yJ1_charAt_3b067 cJ1_charAt_3b067 2 (some .char)) (rmK 2) D G ad sz [.ref (ad 178), .int a1] st res := by
  refine Met.ofW (cc := cJ1_charAt_3b067) (maxL := 2) (ret := (some .char)) (by decide) rfl ?_
  intro p e s m args below meth c s₁ B hml hv
  obtain ⟨rfl, hsz, hP, hK, hSt⟩ := hv
  have hts0 := atoms_spec (ws := wsU yJ1_charAt_3b067 cJ1_charAt_3b067 2 (some .char)) B.pre
  have hts : ∀ w ∈ wsL_law, w.before _ s = true := fun w h => hts0 w (List.mem_cons_of_mem _ h)
  have hx := B.exec
  have hb := B.bytes
  have hr := B.returns
  have hlk := B.notSynchronized
  have hown : s.vm.findClass RJ1 = some m.cls := findClass_of_methodNamed B.named
  subst hsz
  have hl := lv_entry ([.ref (ad 178), .int a1]) (n := 2) (Nat.le_of_ble_eq_true rfl)
  rw [lg_entry_eq]
  generalize (lg_sl ([.ref (ad 178), .int a1]) ++ List.replicate (2 - (lg_sl ([.ref (ad 178), .int a1])).length) Slot.unset).toArray = ls at hl ⊢
  have hS : va_S (AA ad s.heap.size) s.heap s.heap [] := va_S.rf
  unfold fJ1_charAt_3b067 at hf
  obtain ⟨g1, hf⟩ := gd hf
  have h3 : fJ0_checkIndex_df160 n a1 44 st = some ((), st) := by
    have h := inb_in g1
    rw [vp_in_iff] at h
    unfold fJ0_checkIndex_df160
    rw [if_neg (by rw [Int32.lt_iff_toInt_lt]; have : (0 : Int32).toInt = 0 := rfl; omega), if_pos (by rw [Int32.lt_iff_toInt_lt]; have : (44 : Int32).toInt = 44 := rfl; omega)]
  refine lv_iload_n hx hb dJ1_charAt_3b067_0 rfl (lv_at hl 1 rfl) ?_
  refine lv_aload_n hx hb dJ1_charAt_3b067_1 rfl (lv_at hl 0 rfl) ?_
  refine va_tlen hx hb (hSt.2.1.1 0 (by decide)).2.2.2 hS (v := 44) (by decide) dJ1_charAt_3b067_2 ?_
  refine gcT_v (k := 1) (As := [.int a1, .int 44]) (rest := []) hx hb hml hown hts hK hSt hP hS hl.1 (goodU wm_28_18) wm_28_17 wm_27_19 wm_28_16 okJ0_checkIndex_df160 (Nat.le_of_ble_eq_true rfl) (Nat.le_of_ble_eq_true rfl) rfl rfl (Nat.le_of_ble_eq_true rfl) dJ1_charAt_3b067_3 (kJ0_checkIndex_df160 l D G ad had n a1 44 st ((), st) h3) (fun H locs hP hS => ?_)
  refine lv_aload_n hx hb dJ1_charAt_3b067_6 rfl (lv_at hl 0 rfl) ?_
  refine lv_iload_n hx hb dJ1_charAt_3b067_7 rfl (lv_at hl 1 rfl) ?_
  refine va_tb hx hb (hSt.2.1.1 0 (by decide)).2.2.2 hS (inb_in g1) rfl dJ1_charAt_3b067_8 ?_
  refine lv_sipush (v := 255) hx hb dJ1_charAt_3b067_9 (by decide) ?_
  refine lv_iand hx hb dJ1_charAt_3b067_12 ?_
  refine lv_i2c hx hb dJ1_charAt_3b067_13 (v := wch a1) (sc_c2 _) ?_
  exact g_nret hx hb hr (sc_nar _) hlk hP hS dJ1_charAt_3b067_14 hf
set_option maxHeartbeats 4000000 in
set_option maxRecDepth 100000 in
theorem kJ0_charAt_5068e (l : Launch) (D : va_G) (G : G3) (ad : Nat → Nat) (had : Adr ad) (n : Nat) (a1 : Int32) (st : St) (res : Int32 × St) (hf : fJ0_charAt_5068e n a1 st = some res) {sz : Nat} : CtI l yJ0_charAt_5068e (wsU yJ0_charAt_5068e cJ0_charAt_5068e 2 (some .char)) (rmK 3) D G ad sz [.ref (ad 177), .int a1] st res := by
  refine Met.ofW (cc := cJ0_charAt_5068e) (maxL := 2) (ret := (some .char)) (by decide) rfl ?_
  intro p e s m args below meth c s₁ B hml hv
  obtain ⟨rfl, hsz, hP, hK, hSt⟩ := hv
  have hts0 := atoms_spec (ws := wsU yJ0_charAt_5068e cJ0_charAt_5068e 2 (some .char)) B.pre
  have hts : ∀ w ∈ wsL_law, w.before _ s = true := fun w h => hts0 w (List.mem_cons_of_mem _ h)
  have hx := B.exec
  have hb := B.bytes
  have hr := B.returns
  have hlk := B.notSynchronized
  have hown : s.vm.findClass RJ0 = some m.cls := findClass_of_methodNamed B.named
  subst hsz
  have hl := lv_entry ([.ref (ad 177), .int a1]) (n := 2) (Nat.le_of_ble_eq_true rfl)
  rw [lg_entry_eq]
  generalize (lg_sl ([.ref (ad 177), .int a1]) ++ List.replicate (2 - (lg_sl ([.ref (ad 177), .int a1])).length) Slot.unset).toArray = ls at hl ⊢
  have hS : va_S (AA ad s.heap.size) s.heap s.heap [] := va_S.rf
  have hf2 : fJ1_charAt_3b067 n a1 st = some res := hf
  unfold fJ0_charAt_5068e at hf
  obtain ⟨g1, hf⟩ := gd hf
  cases hf
  refine lv_aload_n hx hb dJ0_charAt_5068e_0 rfl (lv_at hl 0 rfl) ?_
  refine gcK_i (k := 0) (As := []) (rest := []) hx hb hml hown hts hK hSt hP hS hl.1 (goodV wm_28_8 wm_28_9 wm_28_10 wm_27_19 wm_28_11) okJ0_isLatin1_aae02 (Nat.le_of_ble_eq_true rfl) (Nat.le_of_ble_eq_true rfl) rfl rfl (Nat.le_of_ble_eq_true rfl) dJ0_charAt_5068e_1 (kJ0_isLatin1_aae02 l D G ad had n st (1, st) rfl) (fun H locs hP hS => ?_)
  refine lv_if_eq (tgt := 16) hx hb dJ0_charAt_5068e_4 (by decide) (fun q => absurd (show (1 : Int32) = 0 from q) (by decide)) (fun q => ?_)
  refine lv_aload_n hx hb dJ0_charAt_5068e_7 rfl (lv_at hl 0 rfl) ?_
  refine vk_getf hx hb (hSt.2.1.1 0 (by decide)).2.2.1 hS hown (hts _ wm_27_21) (fun _ h => h) dJ0_charAt_5068e_8 ?_
  refine lv_iload_n hx hb dJ0_charAt_5068e_11 rfl (lv_at hl 1 rfl) ?_
  refine gcT_i (k := 2) (As := [.ref (ad 178), .int a1]) (rest := []) hx hb hml hown hts hK hSt hP hS hl.1 (goodU wm_28_15) wm_28_13 wm_28_14 wm_28_12 okJ1_charAt_3b067 (Nat.le_of_ble_eq_true rfl) (Nat.le_of_ble_eq_true rfl) rfl rfl (Nat.le_of_ble_eq_true rfl) dJ0_charAt_5068e_12 (kJ1_charAt_3b067 l D G ad had n a1 st _ hf2) (fun H locs hP hS => ?_)
  exact g_nret hx hb hr (sc_nar _) hlk hP hS dJ0_charAt_5068e_15 rfl
