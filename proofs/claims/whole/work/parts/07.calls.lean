/-! ===== words, calls, long compares, row copies over the memory ===== -/
abbrev wsU (y : MethodName) (b : ByteArray) (n : Nat) (r : Option FieldType) : List Cond := .code y b n r :: wsL_law
set_option maxRecDepth 20000 in
theorem law_all_good : wsL_law.all goodWord = true := by decide +kernel
theorem law_good : GoodIn wsL_law wsL_law := goodIn_sub (fun _ h => h) law_all_good
theorem goodU {y : MethodName} {b : ByteArray} {n : Nat} {r : Option FieldType} (h : Cond.code y b n r ∈ wsL_law) : GoodIn wsL_law (wsU y b n r) := fun w hw => (List.mem_cons.mp hw).elim (fun e => by rw [e]; exact law_good _ h) (law_good w)
theorem goodV {own C : String} {i : Nat} {y : MethodName} {b : ByteArray} {n : Nat} {r : Option FieldType} (h1 : Cond.methodLink own i y ∈ wsL_law) (h2 : Cond.instanceMethod y ∈ wsL_law) (h3 : Cond.selects C y y ∈ wsL_law) (h4 : Cond.initialized C ∈ wsL_law) (h : Cond.code y b n r ∈ wsL_law) : GoodIn wsL_law (wsV own i C y (wsU y b n r)) := by
  refine goodIn_app ?_ (goodU h)
  intro w hw
  simp only [List.mem_cons, List.not_mem_nil, or_false] at hw
  rcases hw with rfl | rfl | rfl | rfl
  · exact law_good _ h1
  · exact law_good _ h2
  · exact law_good _ h3
  · exact law_good _ h4
theorem goodS {own : String} {i : Nat} {y : MethodName} {b : ByteArray} {n : Nat} {r : Option FieldType} (h1 : Cond.methodLink own i y ∈ wsL_law) (h2 : Cond.static y ∈ wsL_law) (h4 : Cond.initialized own ∈ wsL_law) (h : Cond.code y b n r ∈ wsL_law) : GoodIn wsL_law (wsS own i y (wsU y b n r)) := by
  refine goodIn_app ?_ (goodU h)
  intro w hw
  simp only [List.mem_cons, List.not_mem_nil, or_false] at hw
  rcases hw with rfl | rfl | rfl
  · exact law_good _ h1
  · exact law_good _ h2
  · exact law_good _ h4
/-- a method's descriptor has n parameters -/
def okY (y : MethodName) (C : String) (n : Nat) : Prop := y.cls = C ∧ y.cls ≠ "java/lang/invoke/MethodHandle" ∧ y.cls ≠ "java/lang/invoke/VarHandle" ∧ (parseMethodDescriptor y.desc).map (fun d => d.parameters.length) = some n
abbrev At (p : Program) (l : Launch) (e : Env) (R : Room) (s : State) (m : MethodId) (args : Array Value) (below : List Frame) (meth : Method) (c : Code) (D : va_G) (G : G3) (ad : Nat → Nat) (Q : State → Prop) (nL : Nat) (st : St) (lv : List (Nat × Value)) (pc : Nat) (stk : List Value) : Prop :=
  ∀ (H : Heap) (locs : List Loc) (ls : Array Slot), lv_has ls nL lv → va_P D vwCl (SW G ad st) H → va_S (AA ad s.heap.size) s.heap H locs → W p l e R s m args below meth c H locs 0 0 Q (F0 m pc ls stk)
abbrev rmK (k : Nat) : Room := { frames := k, cells := 0, slots := 0, locals := 50 * k }
theorem rmK_ok {k j maxL : Nat} (h : k < j) (hL : maxL ≤ 31) : (rmK k).frames + 1 ≤ (rmK j).frames ∧ 8 + (maxL + 11) + (rmK k).locals ≤ (rmK j).locals := by
  show k + 1 ≤ j ∧ 8 + (maxL + 11) + 50 * k ≤ 50 * j
  omega
theorem Wd_blind {D : va_G} {G : G3} {ad : Nat → Nat} {sz : Nat} {st : St} {as : List Value} : FrameBlind (va_Pc as (Wd D G ad sz st)) := fun _ _ _ _ q => ⟨q.1, q.2.1, q.2.2.1, q.2.2.2.1.calling, q.2.2.2.2.calling⟩
section GC
variable {p : Program} {l : Launch} {e : Env} {s : State} {m : MethodId} {args : Array Value} {below : List Frame} {meth : Method} {c : Code} {H H0 : Heap} {locs : List Loc} {Q : State → Prop} {cc : ByteArray} {pc : Nat} {ls : Array Slot} {rest : List Value} {D : va_G} {G : G3} {ad : Nat → Nat} {st : St} {sz : Nat} {y : MethodName} {bytes : ByteArray} {maxL n index nL k j ci : Nat} {ret : Option FieldType} {own C : String} {o : Nat} {As stk : List Value} {fs : List (Nat ⊕ Bool)} {q : vw_C}
theorem wd_of {H : Heap} (hK : KK D G s) (hSt : Str ad s) (hS : va_S (AA ad s.heap.size) s.heap H locs) (hP : va_P D vwCl (SW G ad st) H) (as : List Value) : ∀ U : State, U.heap = H → s.WarmedH U.vm → va_Pc as (Wd D G ad H.size st) as.toArray U := fun U hU hW => ⟨rfl, by rw [hU], by rw [hU]; exact hP, hK.warm hW, hSt.at hS hU hW⟩
theorem gcV_i {res : Int32 × St} (hx : p.tables.exec = Jvm.exec) (hb : c.code = cc) (hml : c.maxLocals = nL) (hown : s.vm.findClass own = some m.cls) (hts : ∀ w ∈ wsL_law, w.before args s = true) (hK : KK D G s) (hSt : Str ad s) (hP : va_P D vwCl (SW G ad st) H) (hS : va_S (AA ad s.heap.size) s.heap H locs) (hl : ls.size = nL)
    (hG : GoodIn wsL_law (wsV own index C y (wsU y bytes maxL ret))) (hy : okY y C n) (hd : ctab[o]? = some (.inl (ci, fs))) (hc : vwCl[ci]? = some q) (hq : q.1 = C) (hk : k < j) (hL : maxL ≤ 31) (hn : As.length = n) (hstk : stk = As.reverse ++ .ref (ad o) :: rest) (hr : (rest.map fun v => v.category).sum ≤ 8) (hdg : decode cc pc = .ok (.invokevirtual index, 3))
    (hM : CtI l y (wsU y bytes maxL ret) (rmK k) D G ad H.size (.ref (ad o) :: As) st res)
    (kk : ∀ (H1 : Heap) (locs1 : List Loc), va_P D vwCl (SW G ad res.2) H1 → va_S (AA ad s.heap.size) s.heap H1 locs1 → W p l e (rmK j) s m args below meth c H1 locs1 0 0 Q (F0 m (pc + 3) ls (.int res.1 :: rest))) : W p l e (rmK j) s m args below meth c H locs 0 0 Q (F0 m pc ls stk) := by
  subst hstk
  subst hq
  refine va_calli (va_runV (As := As) (rest := rest) ⟨hx, hb, hml, hown, hts⟩ hM (cwV n hts hG rfl rfl rfl hy (rmK_ok hk hL)) ⟨Wd_blind, va_recv hK.1 hP hc (fv_at hd), wd_of hK hSt hS hP _⟩ rfl hn hl rfl (lv_room hr) hdg ⟨Nat.le_refl _, Nat.le_refl _⟩) hS (fun q _ h => AA_mono hS.1 q h) (AA_mono hS.1) (fun r u t H1 locs1 ht hvm hw hB _ _ hS1 => ?_)
  obtain ⟨rfl, rfl⟩ := hw
  exact kk H1 locs1 (by rw [← ht]; exact hB) hS1
theorem gcV_j {res : Int64 × St} (hx : p.tables.exec = Jvm.exec) (hb : c.code = cc) (hml : c.maxLocals = nL) (hown : s.vm.findClass own = some m.cls) (hts : ∀ w ∈ wsL_law, w.before args s = true) (hK : KK D G s) (hSt : Str ad s) (hP : va_P D vwCl (SW G ad st) H) (hS : va_S (AA ad s.heap.size) s.heap H locs) (hl : ls.size = nL)
    (hG : GoodIn wsL_law (wsV own index C y (wsU y bytes maxL ret))) (hy : okY y C n) (hd : ctab[o]? = some (.inl (ci, fs))) (hc : vwCl[ci]? = some q) (hq : q.1 = C) (hk : k < j) (hL : maxL ≤ 31) (hn : As.length = n) (hstk : stk = As.reverse ++ .ref (ad o) :: rest) (hr : (rest.map fun v => v.category).sum ≤ 8) (hdg : decode cc pc = .ok (.invokevirtual index, 3))
    (hM : CtJ l y (wsU y bytes maxL ret) (rmK k) D G ad H.size (.ref (ad o) :: As) st res)
    (kk : ∀ (H1 : Heap) (locs1 : List Loc), va_P D vwCl (SW G ad res.2) H1 → va_S (AA ad s.heap.size) s.heap H1 locs1 → W p l e (rmK j) s m args below meth c H1 locs1 0 0 Q (F0 m (pc + 3) ls (.long res.1 :: rest))) : W p l e (rmK j) s m args below meth c H locs 0 0 Q (F0 m pc ls stk) := by
  subst hstk
  subst hq
  refine va_calll (va_runV (As := As) (rest := rest) ⟨hx, hb, hml, hown, hts⟩ hM (cwV n hts hG rfl rfl rfl hy (rmK_ok hk hL)) ⟨Wd_blind, va_recv hK.1 hP hc (fv_at hd), wd_of hK hSt hS hP _⟩ rfl hn hl rfl (lv_room hr) hdg ⟨Nat.le_refl _, Nat.le_refl _⟩) hS (fun q _ h => AA_mono hS.1 q h) (AA_mono hS.1) (fun r u t H1 locs1 ht hvm hw hB _ _ hS1 => ?_)
  obtain ⟨rfl, rfl⟩ := hw
  exact kk H1 locs1 (by rw [← ht]; exact hB) hS1
theorem gcV_v {res : Unit × St} (hx : p.tables.exec = Jvm.exec) (hb : c.code = cc) (hml : c.maxLocals = nL) (hown : s.vm.findClass own = some m.cls) (hts : ∀ w ∈ wsL_law, w.before args s = true) (hK : KK D G s) (hSt : Str ad s) (hP : va_P D vwCl (SW G ad st) H) (hS : va_S (AA ad s.heap.size) s.heap H locs) (hl : ls.size = nL)
    (hG : GoodIn wsL_law (wsV own index C y (wsU y bytes maxL ret))) (hy : okY y C n) (hd : ctab[o]? = some (.inl (ci, fs))) (hc : vwCl[ci]? = some q) (hq : q.1 = C) (hk : k < j) (hL : maxL ≤ 31) (hn : As.length = n) (hstk : stk = As.reverse ++ .ref (ad o) :: rest) (hr : (rest.map fun v => v.category).sum ≤ 8) (hdg : decode cc pc = .ok (.invokevirtual index, 3))
    (hM : CtV l y (wsU y bytes maxL ret) (rmK k) D G ad H.size (.ref (ad o) :: As) st res)
    (kk : ∀ (H1 : Heap) (locs1 : List Loc), va_P D vwCl (SW G ad res.2) H1 → va_S (AA ad s.heap.size) s.heap H1 locs1 → W p l e (rmK j) s m args below meth c H1 locs1 0 0 Q (F0 m (pc + 3) ls rest)) : W p l e (rmK j) s m args below meth c H locs 0 0 Q (F0 m pc ls stk) := by
  subst hstk
  subst hq
  refine va_callv (va_runV (As := As) (rest := rest) ⟨hx, hb, hml, hown, hts⟩ hM (cwV n hts hG rfl rfl rfl hy (rmK_ok hk hL)) ⟨Wd_blind, va_recv hK.1 hP hc (fv_at hd), wd_of hK hSt hS hP _⟩ rfl hn hl rfl (lv_room hr) hdg ⟨Nat.le_refl _, Nat.le_refl _⟩) hS (fun q _ h => AA_mono hS.1 q h) (AA_mono hS.1) (fun u t H1 locs1 ht hvm hw hB _ _ hS1 => ?_)
  subst hw
  exact kk H1 locs1 (by rw [← ht]; exact hB) hS1
theorem gcV_r {res : Nat × St} (hx : p.tables.exec = Jvm.exec) (hb : c.code = cc) (hml : c.maxLocals = nL) (hown : s.vm.findClass own = some m.cls) (hts : ∀ w ∈ wsL_law, w.before args s = true) (hK : KK D G s) (hSt : Str ad s) (hP : va_P D vwCl (SW G ad st) H) (hS : va_S (AA ad s.heap.size) s.heap H locs) (hl : ls.size = nL)
    (hG : GoodIn wsL_law (wsV own index C y (wsU y bytes maxL ret))) (hy : okY y C n) (hd : ctab[o]? = some (.inl (ci, fs))) (hc : vwCl[ci]? = some q) (hq : q.1 = C) (hk : k < j) (hL : maxL ≤ 31) (hn : As.length = n) (hstk : stk = As.reverse ++ .ref (ad o) :: rest) (hr : (rest.map fun v => v.category).sum ≤ 8) (hdg : decode cc pc = .ok (.invokevirtual index, 3))
    (hM : CtR l y (wsU y bytes maxL ret) (rmK k) D G ad H.size (.ref (ad o) :: As) st res)
    (kk : ∀ (H1 : Heap) (locs1 : List Loc), va_P D vwCl (SW G ad res.2) H1 → va_S (AA ad s.heap.size) s.heap H1 locs1 → W p l e (rmK j) s m args below meth c H1 locs1 0 0 Q (F0 m (pc + 3) ls (.ref (ad res.1) :: rest))) : W p l e (rmK j) s m args below meth c H locs 0 0 Q (F0 m pc ls stk) := by
  subst hstk
  subst hq
  refine va_callr (va_runV (As := As) (rest := rest) ⟨hx, hb, hml, hown, hts⟩ hM (cwV n hts hG rfl rfl rfl hy (rmK_ok hk hL)) ⟨Wd_blind, va_recv hK.1 hP hc (fv_at hd), wd_of hK hSt hS hP _⟩ rfl hn hl rfl (lv_room hr) hdg ⟨Nat.le_refl _, Nat.le_refl _⟩) hS (fun q _ h => AA_mono hS.1 q h) (AA_mono hS.1) (fun u a t H1 locs1 ht hvm hw hB _ _ hS1 => ?_)
  subst hw
  obtain ⟨rfl, hB⟩ := hB
  exact kk H1 locs1 (by rw [← ht]; exact hB) hS1
theorem gcS_i {res : Int32 × St} (hx : p.tables.exec = Jvm.exec) (hb : c.code = cc) (hml : c.maxLocals = nL) (hown : s.vm.findClass own = some m.cls) (hts : ∀ w ∈ wsL_law, w.before args s = true) (hK : KK D G s) (hSt : Str ad s) (hP : va_P D vwCl (SW G ad st) H) (hS : va_S (AA ad s.heap.size) s.heap H locs) (hl : ls.size = nL)
    (hG : GoodIn wsL_law (wsS own index y (wsU y bytes maxL ret))) (hy : okY y own n) (hk : k < j) (hL : maxL ≤ 31) (hn : As.length = n) (hstk : stk = As.reverse ++ rest) (hr : (rest.map fun v => v.category).sum ≤ 8) (hdg : decode cc pc = .ok (.invokestatic index, 3))
    (hM : CtI l y (wsU y bytes maxL ret) (rmK k) D G ad H.size As st res)
    (kk : ∀ (H1 : Heap) (locs1 : List Loc), va_P D vwCl (SW G ad res.2) H1 → va_S (AA ad s.heap.size) s.heap H1 locs1 → W p l e (rmK j) s m args below meth c H1 locs1 0 0 Q (F0 m (pc + 3) ls (.int res.1 :: rest))) : W p l e (rmK j) s m args below meth c H locs 0 0 Q (F0 m pc ls stk) := by
  subst hstk
  refine va_calli (va_runS (As := As) (rest := rest) ⟨hx, hb, hml, hown, hts⟩ hM (cwS n hts hG rfl rfl rfl hy (rmK_ok hk hL)) ⟨Wd_blind, wd_of hK hSt hS hP _⟩ rfl hn hl rfl (lv_room hr) hdg ⟨Nat.le_refl _, Nat.le_refl _⟩) hS (fun q _ h => AA_mono hS.1 q h) (AA_mono hS.1) (fun r u t H1 locs1 ht hvm hw hB _ _ hS1 => ?_)
  obtain ⟨rfl, rfl⟩ := hw
  exact kk H1 locs1 (by rw [← ht]; exact hB) hS1
theorem gcS_j {res : Int64 × St} (hx : p.tables.exec = Jvm.exec) (hb : c.code = cc) (hml : c.maxLocals = nL) (hown : s.vm.findClass own = some m.cls) (hts : ∀ w ∈ wsL_law, w.before args s = true) (hK : KK D G s) (hSt : Str ad s) (hP : va_P D vwCl (SW G ad st) H) (hS : va_S (AA ad s.heap.size) s.heap H locs) (hl : ls.size = nL)
    (hG : GoodIn wsL_law (wsS own index y (wsU y bytes maxL ret))) (hy : okY y own n) (hk : k < j) (hL : maxL ≤ 31) (hn : As.length = n) (hstk : stk = As.reverse ++ rest) (hr : (rest.map fun v => v.category).sum ≤ 8) (hdg : decode cc pc = .ok (.invokestatic index, 3))
    (hM : CtJ l y (wsU y bytes maxL ret) (rmK k) D G ad H.size As st res)
    (kk : ∀ (H1 : Heap) (locs1 : List Loc), va_P D vwCl (SW G ad res.2) H1 → va_S (AA ad s.heap.size) s.heap H1 locs1 → W p l e (rmK j) s m args below meth c H1 locs1 0 0 Q (F0 m (pc + 3) ls (.long res.1 :: rest))) : W p l e (rmK j) s m args below meth c H locs 0 0 Q (F0 m pc ls stk) := by
  subst hstk
  refine va_calll (va_runS (As := As) (rest := rest) ⟨hx, hb, hml, hown, hts⟩ hM (cwS n hts hG rfl rfl rfl hy (rmK_ok hk hL)) ⟨Wd_blind, wd_of hK hSt hS hP _⟩ rfl hn hl rfl (lv_room hr) hdg ⟨Nat.le_refl _, Nat.le_refl _⟩) hS (fun q _ h => AA_mono hS.1 q h) (AA_mono hS.1) (fun r u t H1 locs1 ht hvm hw hB _ _ hS1 => ?_)
  obtain ⟨rfl, rfl⟩ := hw
  exact kk H1 locs1 (by rw [← ht]; exact hB) hS1
/-- a static of another class -/
theorem gcT_i {res : Int32 × St} (hx : p.tables.exec = Jvm.exec) (hb : c.code = cc) (hml : c.maxLocals = nL) (hown : s.vm.findClass own = some m.cls) (hts : ∀ w ∈ wsL_law, w.before args s = true) (hK : KK D G s) (hSt : Str ad s) (hP : va_P D vwCl (SW G ad st) H) (hS : va_S (AA ad s.heap.size) s.heap H locs) (hl : ls.size = nL)
    (hG : GoodIn wsL_law (wsU y bytes maxL ret)) (hst : Cond.static y ∈ wsL_law) (hin : Cond.initialized y.cls ∈ wsL_law) (hlk : Cond.methodLink own index y ∈ wsL_law) (hy : okY y C n) (hk : k < j) (hL : maxL ≤ 31) (hn : As.length = n) (hstk : stk = As.reverse ++ rest) (hr : (rest.map fun v => v.category).sum ≤ 8) (hdg : decode cc pc = .ok (.invokestatic index, 3))
    (hM : CtI l y (wsU y bytes maxL ret) (rmK k) D G ad H.size As st res)
    (kk : ∀ (H1 : Heap) (locs1 : List Loc), va_P D vwCl (SW G ad res.2) H1 → va_S (AA ad s.heap.size) s.heap H1 locs1 → W p l e (rmK j) s m args below meth c H1 locs1 0 0 Q (F0 m (pc + 3) ls (.int res.1 :: rest))) : W p l e (rmK j) s m args below meth c H locs 0 0 Q (F0 m pc ls stk) := by
  subst hstk
  refine va_calli (va_runS (As := As) (rest := rest) ⟨hx, hb, hml, hown, hts⟩ hM ⟨callB_of n hts hG rfl rfl rfl (hts _ hin) (hts _ hlk) hy.2 (rmK_ok hk hL), hts _ hst⟩ ⟨Wd_blind, wd_of hK hSt hS hP _⟩ rfl hn hl rfl (lv_room hr) hdg ⟨Nat.le_refl _, Nat.le_refl _⟩) hS (fun q _ h => AA_mono hS.1 q h) (AA_mono hS.1) (fun r u t H1 locs1 ht hvm hw hB _ _ hS1 => ?_)
  obtain ⟨rfl, rfl⟩ := hw
  exact kk H1 locs1 (by rw [← ht]; exact hB) hS1
/-- a private static of the host, called by a nested class -/
theorem gcN_i {host : String} {res : Int32 × St} (hx : p.tables.exec = Jvm.exec) (hb : c.code = cc) (hml : c.maxLocals = nL) (hown : s.vm.findClass own = some m.cls) (hts : ∀ w ∈ wsL_law, w.before args s = true) (hK : KK D G s) (hSt : Str ad s) (hP : va_P D vwCl (SW G ad st) H) (hS : va_S (AA ad s.heap.size) s.heap H locs) (hl : ls.size = nL)
    (hG : GoodIn wsL_law (wsU y bytes maxL ret)) (hst : Cond.static y ∈ wsL_law) (hin : Cond.initialized y.cls ∈ wsL_law) (hnl : va_Nw (.methodLinkNest own index y host) s) (hy : okY y C n) (hk : k < j) (hL : maxL ≤ 31) (hn : As.length = n) (hstk : stk = As.reverse ++ rest) (hr : (rest.map fun v => v.category).sum ≤ 8) (hdg : decode cc pc = .ok (.invokestatic index, 3))
    (hM : CtI l y (wsU y bytes maxL ret) (rmK k) D G ad H.size As st res)
    (kk : ∀ (H1 : Heap) (locs1 : List Loc), va_P D vwCl (SW G ad res.2) H1 → va_S (AA ad s.heap.size) s.heap H1 locs1 → W p l e (rmK j) s m args below meth c H1 locs1 0 0 Q (F0 m (pc + 3) ls (.int res.1 :: rest))) : W p l e (rmK j) s m args below meth c H locs 0 0 Q (F0 m pc ls stk) := by
  subst hstk
  refine va_calli (va_runSN (host := host) (As := As) (rest := rest) ⟨hx, hb, hml, hown, hts⟩ hM ⟨va_cnB n hts hG rfl rfl rfl hnl (hts _ hin) hy.2 (rmK_ok hk hL), hts _ hst, trivial⟩ ⟨Wd_blind, wd_of hK hSt hS hP _⟩ rfl hn hl rfl (lv_room hr) hdg ⟨Nat.le_refl _, Nat.le_refl _⟩) hS (fun q _ h => AA_mono hS.1 q h) (AA_mono hS.1) (fun r u t H1 locs1 ht hvm hw hB _ _ hS1 => ?_)
  obtain ⟨rfl, rfl⟩ := hw
  exact kk H1 locs1 (by rw [← ht]; exact hB) hS1
end GC
-- the ends of a method
section GE
variable {p : Program} {l : Launch} {e : Env} {R : Room} {s : State} {m : MethodId} {args : Array Value} {below : List Frame} {meth : Method} {c : Code} {H : Heap} {locs : List Loc} {cc : ByteArray} {pc : Nat} {ls : Array Slot} {D : va_G} {G : G3} {ad : Nat → Nat} {st : St}
theorem g_iret {res : Int32 × St} {v : Int32} (hx : p.tables.exec = Jvm.exec) (hb : c.code = cc) (hr : meth.sig.returnType = some .int) (hlk : meth.locks = false) (hP : va_P D vwCl (SW G ad st) H) (hS : va_S (AA ad s.heap.size) s.heap H locs) (hdg : decode cc pc = .ok (.ireturn, 1)) (hf : some (v, st) = some res) : W p l e R s m args below meth c H locs 0 0 (MQI D G ad below args s res) (F0 m pc ls [.int v]) := by
  cases hf
  exact W.iret hx hb hr (fun t ht _ => ⟨⟨v, st, rfl, ⟨rfl, rfl⟩, by unfold We; rw [ht]; exact hP⟩, hS.F ht⟩) hS.2.2 hdg hlk
theorem g_zret {res : Int32 × St} {v : Int32} (hx : p.tables.exec = Jvm.exec) (hb : c.code = cc) (hr : meth.sig.returnType = some .boolean) (hlk : meth.locks = false) (hP : va_P D vwCl (SW G ad st) H) (hS : va_S (AA ad s.heap.size) s.heap H locs) (hz : v = 0 ∨ v = 1) (hdg : decode cc pc = .ok (.ireturn, 1)) (hf : some (v, st) = some res) : W p l e R s m args below meth c H locs 0 0 (MQI D G ad below args s res) (F0 m pc ls [.int v]) := by
  cases hf
  exact W.zret hx hb hr (by rcases hz with rfl | rfl <;> rfl) (fun t ht _ => ⟨⟨v, st, rfl, ⟨rfl, rfl⟩, by unfold We; rw [ht]; exact hP⟩, hS.F ht⟩) hS.2.2 hdg hlk
theorem g_lret {res : Int64 × St} {v : Int64} (hx : p.tables.exec = Jvm.exec) (hb : c.code = cc) (hr : meth.sig.returnType = some .long) (hlk : meth.locks = false) (hP : va_P D vwCl (SW G ad st) H) (hS : va_S (AA ad s.heap.size) s.heap H locs) (hdg : decode cc pc = .ok (.lreturn, 1)) (hf : some (v, st) = some res) : W p l e R s m args below meth c H locs 0 0 (MQJ D G ad below args s res) (F0 m pc ls [.long v]) := by
  cases hf
  exact W.lret hx hb hr (fun t ht _ => ⟨⟨v, st, rfl, ⟨rfl, rfl⟩, by unfold We; rw [ht]; exact hP⟩, hS.F ht⟩) hS.2.2 hdg hlk
theorem g_vret {res : Unit × St} (hx : p.tables.exec = Jvm.exec) (hb : c.code = cc) (hr : meth.sig.returnType = none) (hlk : meth.locks = false) (hP : va_P D vwCl (SW G ad st) H) (hS : va_S (AA ad s.heap.size) s.heap H locs) (hdg : decode cc pc = .ok (.return_, 1)) (hf : some ((), st) = some res) : W p l e R s m args below meth c H locs 0 0 (MQV D G ad below args s res) (F0 m pc ls []) := by
  cases hf
  exact W.vret hx hb hr (fun t ht _ => ⟨⟨st, rfl, rfl, by unfold We; rw [ht]; exact hP⟩, hS.F ht⟩) hS.2.2 hdg hlk
theorem g_aret {res : Nat × St} {v : Nat} (hx : p.tables.exec = Jvm.exec) (hb : c.code = cc) (hr : meth.sig.returnType = some (.array .int)) (hlk : meth.locks = false) (hP : va_P D vwCl (SW G ad st) H) (hS : va_S (AA ad s.heap.size) s.heap H locs) (hdg : decode cc pc = .ok (.areturn, 1)) (hf : some (v, st) = some res) : W p l e R s m args below meth c H locs 0 0 (MQR D G ad below args s res) (F0 m pc ls [.ref (ad v)]) := by
  cases hf
  exact W.aret hx hb hr (Or.inr ⟨_, rfl⟩) (Or.inr ⟨_, rfl⟩) (fun t ht _ => ⟨⟨st, ad v, rfl, rfl, rfl, by unfold We; rw [ht]; exact hP⟩, hS.F ht⟩) hS.2.2 hdg hlk
end GE
section GL
variable {p : Program} {l : Launch} {e : Env} {R : Room} {s : State} {m : MethodId} {args : Array Value} {below : List Frame} {meth : Method} {c : Code} {H : Heap} {locs : List Loc} {cells slots : Nat} {Q : State → Prop} {cc : ByteArray} {pc : Nat} {ls : Array Slot} {rest : List Value} {x y : Int64} {off : Int} {tgt : Nat}
theorem lc_lt (x y : Int64) : lg_cmp x y < 0 ↔ x < y := by
  unfold lg_cmp
  by_cases h1 : x > y
  · rw [if_pos h1]
    refine ⟨fun h => absurd h (by decide), fun h => ?_⟩
    simp only [gt_iff_lt, Int64.lt_iff_toInt_lt] at h h1
    omega
  · rw [if_neg h1]
    by_cases h2 : x = y
    · rw [if_pos h2]
      refine ⟨fun h => absurd h (by decide), fun h => ?_⟩
      rw [h2, Int64.lt_iff_toInt_lt] at h
      omega
    · rw [if_neg h2]
      refine ⟨fun _ => ?_, fun _ => by decide⟩
      rw [← Int64.toInt_inj] at h2
      simp only [gt_iff_lt, Int64.lt_iff_toInt_lt] at h1 ⊢
      omega
theorem lc_gt (x y : Int64) : 0 < lg_cmp x y ↔ y < x := by
  unfold lg_cmp
  by_cases h1 : x > y
  · rw [if_pos h1]
    exact ⟨fun _ => h1, fun _ => by decide⟩
  · rw [if_neg h1]
    refine ⟨fun h => ?_, fun h => absurd h h1⟩
    by_cases h2 : x = y
    · rw [if_pos h2] at h
      exact absurd h (by decide)
    · rw [if_neg h2] at h
      exact absurd h (by decide)
theorem lc_eq (x y : Int64) : lg_cmp x y = 0 ↔ x = y := by
  unfold lg_cmp
  by_cases h1 : x > y
  · rw [if_pos h1]
    refine ⟨fun h => absurd h (by decide), fun h => ?_⟩
    rw [h] at h1
    simp only [gt_iff_lt, Int64.lt_iff_toInt_lt] at h1
    omega
  · rw [if_neg h1]
    by_cases h2 : x = y
    · rw [if_pos h2]
      exact ⟨fun _ => h2, fun _ => rfl⟩
    · rw [if_neg h2]
      exact ⟨fun h => absurd h (by decide), fun h => absurd h h2⟩
theorem lc_ge (x y : Int64) : 0 ≤ lg_cmp x y ↔ y ≤ x := lg_cmp_ge x y
theorem lc_le (x y : Int64) : lg_cmp x y ≤ 0 ↔ x ≤ y := by
  have h := lc_gt x y
  have e1 : lg_cmp x y ≤ 0 ↔ ¬ 0 < lg_cmp x y := by rw [Int32.le_iff_toInt_le, Int32.lt_iff_toInt_lt]; omega
  have e2 : x ≤ y ↔ ¬ y < x := by rw [Int64.le_iff_toInt_le, Int64.lt_iff_toInt_lt]; omega
  rw [e1, e2, h]
theorem g_lcmp_lt (hx : p.tables.exec = Jvm.exec) (hb : c.code = cc) (h1 : decode cc pc = .ok (.lcmp, 1)) (h2 : decode cc (pc + 1) = .ok (.ifCond .lt off, 3)) (ht : ((pc + 1 : Nat) : Int) + off = (tgt : Int)) (kt : x < y → W p l e R s m args below meth c H locs cells slots Q (F0 m tgt ls rest)) (kf : ¬ x < y → W p l e R s m args below meth c H locs cells slots Q (F0 m (pc + 1 + 3) ls rest)) : W p l e R s m args below meth c H locs cells slots Q (F0 m pc ls (.long y :: .long x :: rest)) :=
  W.lcmp hx hb h1 (lv_if_lt hx hb h2 ht (fun h => kt ((lc_lt x y).mp h)) (fun h => kf (fun q => h ((lc_lt x y).mpr q))))
theorem g_lcmp_ge (hx : p.tables.exec = Jvm.exec) (hb : c.code = cc) (h1 : decode cc pc = .ok (.lcmp, 1)) (h2 : decode cc (pc + 1) = .ok (.ifCond .ge off, 3)) (ht : ((pc + 1 : Nat) : Int) + off = (tgt : Int)) (kt : y ≤ x → W p l e R s m args below meth c H locs cells slots Q (F0 m tgt ls rest)) (kf : ¬ y ≤ x → W p l e R s m args below meth c H locs cells slots Q (F0 m (pc + 1 + 3) ls rest)) : W p l e R s m args below meth c H locs cells slots Q (F0 m pc ls (.long y :: .long x :: rest)) :=
  W.lcmp hx hb h1 (lv_if_ge hx hb h2 ht (fun h => kt ((lc_ge x y).mp h)) (fun h => kf (fun q => h ((lc_ge x y).mpr q))))
theorem g_lcmp_gt (hx : p.tables.exec = Jvm.exec) (hb : c.code = cc) (h1 : decode cc pc = .ok (.lcmp, 1)) (h2 : decode cc (pc + 1) = .ok (.ifCond .gt off, 3)) (ht : ((pc + 1 : Nat) : Int) + off = (tgt : Int)) (kt : y < x → W p l e R s m args below meth c H locs cells slots Q (F0 m tgt ls rest)) (kf : ¬ y < x → W p l e R s m args below meth c H locs cells slots Q (F0 m (pc + 1 + 3) ls rest)) : W p l e R s m args below meth c H locs cells slots Q (F0 m pc ls (.long y :: .long x :: rest)) :=
  W.lcmp hx hb h1 (lv_if_gt hx hb h2 ht (fun h => kt ((lc_gt x y).mp h)) (fun h => kf (fun q => h ((lc_gt x y).mpr q))))
theorem g_lcmp_le (hx : p.tables.exec = Jvm.exec) (hb : c.code = cc) (h1 : decode cc pc = .ok (.lcmp, 1)) (h2 : decode cc (pc + 1) = .ok (.ifCond .le off, 3)) (ht : ((pc + 1 : Nat) : Int) + off = (tgt : Int)) (kt : x ≤ y → W p l e R s m args below meth c H locs cells slots Q (F0 m tgt ls rest)) (kf : ¬ x ≤ y → W p l e R s m args below meth c H locs cells slots Q (F0 m (pc + 1 + 3) ls rest)) : W p l e R s m args below meth c H locs cells slots Q (F0 m pc ls (.long y :: .long x :: rest)) :=
  W.lcmp hx hb h1 (lv_if_le hx hb h2 ht (fun h => kt ((lc_le x y).mp h)) (fun h => kf (fun q => h ((lc_le x y).mpr q))))
theorem g_lcmp_eq (hx : p.tables.exec = Jvm.exec) (hb : c.code = cc) (h1 : decode cc pc = .ok (.lcmp, 1)) (h2 : decode cc (pc + 1) = .ok (.ifCond .eq off, 3)) (ht : ((pc + 1 : Nat) : Int) + off = (tgt : Int)) (kt : x = y → W p l e R s m args below meth c H locs cells slots Q (F0 m tgt ls rest)) (kf : ¬ x = y → W p l e R s m args below meth c H locs cells slots Q (F0 m (pc + 1 + 3) ls rest)) : W p l e R s m args below meth c H locs cells slots Q (F0 m pc ls (.long y :: .long x :: rest)) :=
  W.lcmp hx hb h1 (lv_if_eq hx hb h2 ht (fun h => kt ((lc_eq x y).mp h)) (fun h => kf (fun q => h ((lc_eq x y).mpr q))))
theorem g_lcmp_ne (hx : p.tables.exec = Jvm.exec) (hb : c.code = cc) (h1 : decode cc pc = .ok (.lcmp, 1)) (h2 : decode cc (pc + 1) = .ok (.ifCond .ne off, 3)) (ht : ((pc + 1 : Nat) : Int) + off = (tgt : Int)) (kt : ¬ x = y → W p l e R s m args below meth c H locs cells slots Q (F0 m tgt ls rest)) (kf : x = y → W p l e R s m args below meth c H locs cells slots Q (F0 m (pc + 1 + 3) ls rest)) : W p l e R s m args below meth c H locs cells slots Q (F0 m pc ls (.long y :: .long x :: rest)) :=
  W.lcmp hx hb h1 (lv_if_ne hx hb h2 ht (fun h => kt (fun q => h ((lc_eq x y).mpr q))) (fun h => kf ((lc_eq x y).mp h)))
end GL
-- getfield by the kind of the field; copies of rows; families of cells
section GF
variable {p : Program} {l : Launch} {e : Env} {R : Room} {s : State} {m : MethodId} {args : Array Value} {below : List Frame} {meth : Method} {c : Code} {H H0 : Heap} {locs : List Loc} {cells slots : Nat} {Q : State → Prop} {cc : ByteArray} {pc : Nat} {ls : Array Slot} {rest : List Value} {D : va_G} {G : G3} {ad : Nat → Nat} {st : St} {sz : Nat}
theorem g_getR (hexec : p.tables.exec = Jvm.exec) (hb : c.code = cc) {own C : String} {T : u_T} {N ci index : Nat} {Ts : List Cond} (hts : ∀ w ∈ Ts, w.before args s = true) (hin : ∀ w ∈ u_ws C T N, w ∈ Ts) (hown : s.vm.findClass own = some m.cls) (hK : KK D G s) (hP : va_P D vwCl (SW G ad st) H) (o : Nat) {fs : List (Nat ⊕ Bool)} (hd : ctab[o]? = some (.inl (ci, fs))) (hc : vwCl[ci]? = some (C, T, N)) (k : Nat) (hk : k < N) (hlink : (Cond.fieldLink own index (T k).1 (T k).2.1 (T k).2.2.1).before args s = true) {t : Nat} (hf : fs[k]? = some (.inl t)) (hdg : decode cc pc = .ok (.getfield index, 3))
    (kk : W p l e R s m args below meth c H locs cells slots Q (F0 m (pc + 3) ls (.ref (ad t) :: rest))) : W p l e R s m args below meth c H locs cells slots Q (F0 m pc ls (.ref (ad o) :: rest)) := g_get hexec hb hts hin hown hK hP o hd hc k hk hlink hf hdg kk
theorem g_getI (hexec : p.tables.exec = Jvm.exec) (hb : c.code = cc) {own C : String} {T : u_T} {N ci index : Nat} {Ts : List Cond} (hts : ∀ w ∈ Ts, w.before args s = true) (hin : ∀ w ∈ u_ws C T N, w ∈ Ts) (hown : s.vm.findClass own = some m.cls) (hK : KK D G s) (hP : va_P D vwCl (SW G ad st) H) (o : Nat) {fs : List (Nat ⊕ Bool)} (hd : ctab[o]? = some (.inl (ci, fs))) (hc : vwCl[ci]? = some (C, T, N)) (k : Nat) (hk : k < N) (hlink : (Cond.fieldLink own index (T k).1 (T k).2.1 (T k).2.2.1).before args s = true) (hf : fs[k]? = some (.inr false)) (hdg : decode cc pc = .ok (.getfield index, 3))
    (kk : W p l e R s m args below meth c H locs cells slots Q (F0 m (pc + 3) ls (.int (st.1 o k) :: rest))) : W p l e R s m args below meth c H locs cells slots Q (F0 m pc ls (.ref (ad o) :: rest)) := g_get hexec hb hts hin hown hK hP o hd hc k hk hlink hf hdg kk
theorem g_getJ (hexec : p.tables.exec = Jvm.exec) (hb : c.code = cc) {own C : String} {T : u_T} {N ci index : Nat} {Ts : List Cond} (hts : ∀ w ∈ Ts, w.before args s = true) (hin : ∀ w ∈ u_ws C T N, w ∈ Ts) (hown : s.vm.findClass own = some m.cls) (hK : KK D G s) (hP : va_P D vwCl (SW G ad st) H) (o : Nat) {fs : List (Nat ⊕ Bool)} (hd : ctab[o]? = some (.inl (ci, fs))) (hc : vwCl[ci]? = some (C, T, N)) (k : Nat) (hk : k < N) (hlink : (Cond.fieldLink own index (T k).1 (T k).2.1 (T k).2.2.1).before args s = true) (hf : fs[k]? = some (.inr true)) (hdg : decode cc pc = .ok (.getfield index, 3))
    (kk : W p l e R s m args below meth c H locs cells slots Q (F0 m (pc + 3) ls (.long (st.2 o k) :: rest))) : W p l e R s m args below meth c H locs cells slots Q (F0 m pc ls (.ref (ad o) :: rest)) := g_get hexec hb hts hin hown hK hP o hd hc k hk hlink hf hdg kk
theorem lv_topc {x v : Int32} (hv : x = v) (k : W p l e R s m args below meth c H locs cells slots Q (F0 m pc ls (.int v :: rest))) : W p l e R s m args below meth c H locs cells slots Q (F0 m pc ls (.int x :: rest)) := hv ▸ k
def cpok (sp dp n : Int32) (n0 n1 : Nat) : Bool := !decide (sp < 0) && !decide (dp < 0) && !decide (n < 0) && decide (sp.toNatClampNeg + n.toNatClampNeg ≤ n0) && decide (dp.toNatClampNeg + n.toNatClampNeg ≤ n1)
theorem cpok_of {sp dp n : Int32} {n0 n1 : Nat} (h : cpok sp dp n n0 n1 = true) : ¬ sp < 0 ∧ ¬ dp < 0 ∧ ¬ n < 0 ∧ sp.toNatClampNeg + n.toNatClampNeg ≤ n0 ∧ dp.toNatClampNeg + n.toNatClampNeg ≤ n1 := by
  unfold cpok at h
  simp only [Bool.and_eq_true, Bool.not_eq_true', decide_eq_false_iff_not, decide_eq_true_eq] at h
  exact ⟨h.1.1.1.1, h.1.1.1.2, h.1.1.2, h.1.2, h.2⟩
theorem rowI_off {st : St} {o : Nat} {f : Nat → Int32} : ∀ j, j ≠ o → (rowI st o f).1 j = st.1 j ∧ (rowI st o f).2 j = st.2 j := fun j h => ⟨if_neg h, rfl⟩
theorem rowJ_off {st : St} {o : Nat} {f : Nat → Int64} : ∀ j, j ≠ o → (rowJ st o f).1 j = st.1 j ∧ (rowJ st o f).2 j = st.2 j := fun j h => ⟨rfl, if_neg h⟩
theorem g_copyI (hexec : p.tables.exec = Jvm.exec) (hb : c.code = cc) (hml : c.maxLocals = ls.size) {own : String} {index : Nat} (hown : s.vm.findClass own = some m.cls) (hlink : (Cond.methodLink own index arraycopyName).before args s = true) (hnat : (Cond.native arraycopyName).before args s = true) (hstat : (Cond.static arraycopyName).before args s = true) (hini : (Cond.initialized "java/lang/System").before args s = true) (hK : KK D G s) (had : Adr ad) (hP : va_P D vwCl (SW G ad st) H) (hS : va_S (AA ad sz) H0 H locs) (q0 : Nat) {n0 : Nat} (h0 : ctab[q0]? = some (.inr (n0, 0))) (q1 : Nat) {n1 : Nat} (h1 : ctab[q1]? = some (.inr (n1, 0))) {sp dp n : Int32} (hok : cpok sp dp n n0 n1 = true) (hframes : 1 ≤ R.frames) (hlocals : (rest.map fun v => v.category).sum + (nativeFrameWords "java/lang/System" "arraycopy" 5 + 11) ≤ R.locals) (hdg : decode cc pc = .ok (.invokestatic index, 3))
    (kk : ∀ (H1 : Heap) (locs1 : List Loc), va_P D vwCl (SW G ad (rowI st q1 (va_cpy (st.1 q0) (st.1 q1) sp.toNatClampNeg dp.toNatClampNeg n.toNatClampNeg))) H1 → va_S (AA ad sz) H0 H1 locs1 → W p l e R s m args below meth c H1 locs1 cells slots Q (F0 m (pc + 3) ls rest)) : W p l e R s m args below meth c H locs cells slots Q (F0 m pc ls (.int n :: .int dp :: .ref (ad q1) :: .int sp :: .ref (ad q0) :: rest)) := by
  obtain ⟨g1, g2, g3, g4, g5⟩ := cpok_of hok
  refine va_copyi hexec hb hml hown hlink hnat hstat hini hK.1 hP (SW_D had) hS q0 q1 0 0 (SW_get h0) (SW_get h1) (ty := .int) rfl rfl rfl g1 g2 g3 g4 g5 (fun _ _ => rfl) hframes hlocals hdg (fun H1 locs1 hP1 _ hS1 => kk H1 locs1 ?_ hS1)
  rw [← SW_set (st := st) (st' := rowI st q1 (va_cpy (st.1 q0) (st.1 q1) sp.toNatClampNeg dp.toNatClampNeg n.toNatClampNeg)) (E := .inl (G.1, n1, .inl (va_cpy (st.1 q0) (st.1 q1) sp.toNatClampNeg dp.toNatClampNeg n.toNatClampNeg))) h1 (by simp only [cellE, rowI, ↓reduceIte]) rowI_off]
  exact hP1
theorem g_copyJ (hexec : p.tables.exec = Jvm.exec) (hb : c.code = cc) (hml : c.maxLocals = ls.size) {own : String} {index : Nat} (hown : s.vm.findClass own = some m.cls) (hlink : (Cond.methodLink own index arraycopyName).before args s = true) (hnat : (Cond.native arraycopyName).before args s = true) (hstat : (Cond.static arraycopyName).before args s = true) (hini : (Cond.initialized "java/lang/System").before args s = true) (hK : KK D G s) (had : Adr ad) (hP : va_P D vwCl (SW G ad st) H) (hS : va_S (AA ad sz) H0 H locs) (q0 : Nat) {n0 : Nat} (h0 : ctab[q0]? = some (.inr (n0, 1))) (q1 : Nat) {n1 : Nat} (h1 : ctab[q1]? = some (.inr (n1, 1))) {sp dp n : Int32} (hok : cpok sp dp n n0 n1 = true) (hframes : 1 ≤ R.frames) (hlocals : (rest.map fun v => v.category).sum + (nativeFrameWords "java/lang/System" "arraycopy" 5 + 11) ≤ R.locals) (hdg : decode cc pc = .ok (.invokestatic index, 3))
    (kk : ∀ (H1 : Heap) (locs1 : List Loc), va_P D vwCl (SW G ad (rowJ st q1 (va_cpy (st.2 q0) (st.2 q1) sp.toNatClampNeg dp.toNatClampNeg n.toNatClampNeg))) H1 → va_S (AA ad sz) H0 H1 locs1 → W p l e R s m args below meth c H1 locs1 cells slots Q (F0 m (pc + 3) ls rest)) : W p l e R s m args below meth c H locs cells slots Q (F0 m pc ls (.int n :: .int dp :: .ref (ad q1) :: .int sp :: .ref (ad q0) :: rest)) := by
  obtain ⟨g1, g2, g3, g4, g5⟩ := cpok_of hok
  refine va_copyl hexec hb hml hown hlink hnat hstat hini hK.1 hP (SW_D had) hS q0 q1 1 1 (SW_get h0) (SW_get h1) (ty := .long) rfl rfl rfl g1 g2 g3 g4 g5 (fun _ _ => rfl) hframes hlocals hdg (fun H1 locs1 hP1 _ hS1 => kk H1 locs1 ?_ hS1)
  rw [← SW_set (st := st) (st' := rowJ st q1 (va_cpy (st.2 q0) (st.2 q1) sp.toNatClampNeg dp.toNatClampNeg n.toNatClampNeg)) (E := .inl (G.2.1, n1, .inr (.inl (va_cpy (st.2 q0) (st.2 q1) sp.toNatClampNeg dp.toNatClampNeg n.toNatClampNeg)))) h1 (by simp only [cellE, rowJ, ↓reduceIte]) rowJ_off]
  exact hP1
end GF
def zb (v : Int32) : Bool := decide (v = 0) || decide (v = 1)
theorem zb_of {v : Int32} (h : zb v = true) : v = 0 ∨ v = 1 := by unfold zb at h; simpa using h
theorem zb_n {v : Int32} (h : zb v = true) : narrow .boolean (.int v) = .int v := by rcases zb_of h with rfl | rfl <;> rfl
theorem zb_f {v : Int32} (h : zb v = true) : fits .boolean (.int v) = true := by rcases zb_of h with rfl | rfl <;> rfl
-- the cells of the table by their numbers
theorem ct_0 : ctab[0]? = some (.inl (10, [.inl 1, .inl 11, .inl 15, .inl 18, .inl 21, .inl 24, .inl 36, .inl 37, .inl 43, .inl 48, .inl 49, .inl 53, .inl 50, .inl 51, .inl 52, .inr false])) := rfl
theorem ct_1 : ctab[1]? = some (.inl (6, [.inl 2, .inl 3, .inl 4, .inl 5, .inl 6, .inl 7, .inl 8, .inl 9, .inl 10, .inr false, .inr false, .inr false, .inr true])) := rfl
theorem ct_2 : ctab[2]? = some (.inr (8, 0)) := rfl
theorem ct_3 : ctab[3]? = some (.inr (8, 0)) := rfl
theorem ct_4 : ctab[4]? = some (.inr (8, 0)) := rfl
theorem ct_5 : ctab[5]? = some (.inr (8, 0)) := rfl
theorem ct_6 : ctab[6]? = some (.inr (8, 0)) := rfl
theorem ct_7 : ctab[7]? = some (.inr (8, 0)) := rfl
theorem ct_8 : ctab[8]? = some (.inr (8, 0)) := rfl
theorem ct_9 : ctab[9]? = some (.inr (8, 0)) := rfl
theorem ct_10 : ctab[10]? = some (.inr (8, 0)) := rfl
theorem ct_11 : ctab[11]? = some (.inl (7, [.inl 12, .inl 13, .inl 14, .inr false])) := rfl
theorem ct_12 : ctab[12]? = some (.inr (1440, 0)) := rfl
theorem ct_13 : ctab[13]? = some (.inr (12, 0)) := rfl
theorem ct_14 : ctab[14]? = some (.inr (32, 1)) := rfl
theorem ct_15 : ctab[15]? = some (.inl (9, [.inl 16, .inl 17, .inr false, .inr false, .inr false])) := rfl
theorem ct_16 : ctab[16]? = some (.inr (120, 0)) := rfl
theorem ct_17 : ctab[17]? = some (.inr (120, 0)) := rfl
theorem ct_18 : ctab[18]? = some (.inl (8, [.inl 19, .inl 20, .inr false])) := rfl
theorem ct_19 : ctab[19]? = some (.inr (8, 0)) := rfl
theorem ct_20 : ctab[20]? = some (.inr (8, 0)) := rfl
theorem ct_21 : ctab[21]? = some (.inl (5, [.inl 22, .inl 23])) := rfl
theorem ct_22 : ctab[22]? = some (.inr (320, 0)) := rfl
theorem ct_23 : ctab[23]? = some (.inr (320, 0)) := rfl
theorem ct_24 : ctab[24]? = some (.inl (4, [.inl 25, .inl 26, .inl 27, .inl 28, .inl 29, .inl 30, .inl 31, .inl 32, .inl 33, .inl 34, .inl 35])) := rfl
theorem ct_25 : ctab[25]? = some (.inl (2, [.inr true, .inr true, .inr false])) := rfl
theorem ct_26 : ctab[26]? = some (.inl (2, [.inr true, .inr true, .inr false])) := rfl
theorem ct_27 : ctab[27]? = some (.inl (2, [.inr true, .inr true, .inr false])) := rfl
theorem ct_28 : ctab[28]? = some (.inl (2, [.inr true, .inr true, .inr false])) := rfl
theorem ct_29 : ctab[29]? = some (.inl (2, [.inr true, .inr true, .inr false])) := rfl
theorem ct_30 : ctab[30]? = some (.inl (2, [.inr true, .inr true, .inr false])) := rfl
theorem ct_31 : ctab[31]? = some (.inl (2, [.inr true, .inr true, .inr false])) := rfl
theorem ct_32 : ctab[32]? = some (.inl (2, [.inr true, .inr true, .inr false])) := rfl
theorem ct_33 : ctab[33]? = some (.inl (2, [.inr true, .inr true, .inr false])) := rfl
theorem ct_34 : ctab[34]? = some (.inl (2, [.inr true, .inr true, .inr false])) := rfl
theorem ct_35 : ctab[35]? = some (.inl (2, [.inr true, .inr true, .inr false])) := rfl
theorem ct_36 : ctab[36]? = some (.inl (2, [.inr true, .inr true, .inr false])) := rfl
theorem ct_37 : ctab[37]? = some (.inl (3, [.inl 38, .inl 39, .inl 40, .inl 41, .inl 42, .inr false, .inr false, .inr false, .inr false, .inr false, .inr false, .inr true])) := rfl
theorem ct_38 : ctab[38]? = some (.inr (5, 0)) := rfl
theorem ct_39 : ctab[39]? = some (.inr (25, 1)) := rfl
theorem ct_40 : ctab[40]? = some (.inr (17, 1)) := rfl
theorem ct_41 : ctab[41]? = some (.inr (13, 1)) := rfl
theorem ct_42 : ctab[42]? = some (.inr (73, 1)) := rfl
theorem ct_43 : ctab[43]? = some (.inl (0, [.inl 44, .inl 47])) := rfl
theorem ct_44 : ctab[44]? = some (.inl (8, [.inl 45, .inl 46, .inr false])) := rfl
theorem ct_45 : ctab[45]? = some (.inr (8, 0)) := rfl
theorem ct_46 : ctab[46]? = some (.inr (8, 0)) := rfl
theorem ct_47 : ctab[47]? = some (.inr (4, 0)) := rfl
theorem ct_48 : ctab[48]? = some (.inr (5, 1)) := rfl
theorem ct_49 : ctab[49]? = some (.inr (7, 2)) := rfl
theorem ct_50 : ctab[50]? = some (.inr (8, 0)) := rfl
theorem ct_51 : ctab[51]? = some (.inr (8, 0)) := rfl
theorem ct_52 : ctab[52]? = some (.inr (6, 0)) := rfl
theorem ct_53 : ctab[53]? = some (.inl (1, [.inl 54, .inl 55, .inl 56, .inl 57, .inl 58, .inl 59, .inl 60, .inl 61, .inl 62, .inl 63, .inr false, .inr true, .inr true])) := rfl
theorem ct_54 : ctab[54]? = some (.inr (8, 0)) := rfl
theorem ct_55 : ctab[55]? = some (.inr (48, 0)) := rfl
theorem ct_56 : ctab[56]? = some (.inr (8, 0)) := rfl
theorem ct_57 : ctab[57]? = some (.inr (8, 0)) := rfl
theorem ct_58 : ctab[58]? = some (.inr (8, 0)) := rfl
theorem ct_59 : ctab[59]? = some (.inr (8, 0)) := rfl
theorem ct_60 : ctab[60]? = some (.inr (8, 0)) := rfl
theorem ct_61 : ctab[61]? = some (.inr (32, 0)) := rfl
theorem ct_62 : ctab[62]? = some (.inr (32, 0)) := rfl
theorem ct_63 : ctab[63]? = some (.inr (8, 1)) := rfl
theorem ct_64 : ctab[64]? = some (.inl (1, [.inl 65, .inl 66, .inl 67, .inl 68, .inl 69, .inl 70, .inl 71, .inl 72, .inl 73, .inl 74, .inr false, .inr true, .inr true])) := rfl
theorem ct_65 : ctab[65]? = some (.inr (8, 0)) := rfl
theorem ct_66 : ctab[66]? = some (.inr (48, 0)) := rfl
theorem ct_67 : ctab[67]? = some (.inr (8, 0)) := rfl
theorem ct_68 : ctab[68]? = some (.inr (8, 0)) := rfl
theorem ct_69 : ctab[69]? = some (.inr (8, 0)) := rfl
theorem ct_70 : ctab[70]? = some (.inr (8, 0)) := rfl
theorem ct_71 : ctab[71]? = some (.inr (8, 0)) := rfl
theorem ct_72 : ctab[72]? = some (.inr (32, 0)) := rfl
theorem ct_73 : ctab[73]? = some (.inr (32, 0)) := rfl
theorem ct_74 : ctab[74]? = some (.inr (8, 1)) := rfl
theorem ct_75 : ctab[75]? = some (.inl (1, [.inl 76, .inl 77, .inl 78, .inl 79, .inl 80, .inl 81, .inl 82, .inl 83, .inl 84, .inl 85, .inr false, .inr true, .inr true])) := rfl
theorem ct_76 : ctab[76]? = some (.inr (8, 0)) := rfl
theorem ct_77 : ctab[77]? = some (.inr (48, 0)) := rfl
theorem ct_78 : ctab[78]? = some (.inr (8, 0)) := rfl
theorem ct_79 : ctab[79]? = some (.inr (8, 0)) := rfl
theorem ct_80 : ctab[80]? = some (.inr (8, 0)) := rfl
theorem ct_81 : ctab[81]? = some (.inr (8, 0)) := rfl
theorem ct_82 : ctab[82]? = some (.inr (8, 0)) := rfl
theorem ct_83 : ctab[83]? = some (.inr (32, 0)) := rfl
theorem ct_84 : ctab[84]? = some (.inr (32, 0)) := rfl
theorem ct_85 : ctab[85]? = some (.inr (8, 1)) := rfl
theorem ct_86 : ctab[86]? = some (.inl (1, [.inl 87, .inl 88, .inl 89, .inl 90, .inl 91, .inl 92, .inl 93, .inl 94, .inl 95, .inl 96, .inr false, .inr true, .inr true])) := rfl
theorem ct_87 : ctab[87]? = some (.inr (8, 0)) := rfl
theorem ct_88 : ctab[88]? = some (.inr (48, 0)) := rfl
theorem ct_89 : ctab[89]? = some (.inr (8, 0)) := rfl
theorem ct_90 : ctab[90]? = some (.inr (8, 0)) := rfl
theorem ct_91 : ctab[91]? = some (.inr (8, 0)) := rfl
theorem ct_92 : ctab[92]? = some (.inr (8, 0)) := rfl
theorem ct_93 : ctab[93]? = some (.inr (8, 0)) := rfl
theorem ct_94 : ctab[94]? = some (.inr (32, 0)) := rfl
theorem ct_95 : ctab[95]? = some (.inr (32, 0)) := rfl
theorem ct_96 : ctab[96]? = some (.inr (8, 1)) := rfl
theorem ct_97 : ctab[97]? = some (.inl (1, [.inl 98, .inl 99, .inl 100, .inl 101, .inl 102, .inl 103, .inl 104, .inl 105, .inl 106, .inl 107, .inr false, .inr true, .inr true])) := rfl
theorem ct_98 : ctab[98]? = some (.inr (8, 0)) := rfl
theorem ct_99 : ctab[99]? = some (.inr (48, 0)) := rfl
theorem ct_100 : ctab[100]? = some (.inr (8, 0)) := rfl
theorem ct_101 : ctab[101]? = some (.inr (8, 0)) := rfl
theorem ct_102 : ctab[102]? = some (.inr (8, 0)) := rfl
theorem ct_103 : ctab[103]? = some (.inr (8, 0)) := rfl
theorem ct_104 : ctab[104]? = some (.inr (8, 0)) := rfl
theorem ct_105 : ctab[105]? = some (.inr (32, 0)) := rfl
theorem ct_106 : ctab[106]? = some (.inr (32, 0)) := rfl
theorem ct_107 : ctab[107]? = some (.inr (8, 1)) := rfl
theorem ct_108 : ctab[108]? = some (.inl (1, [.inl 109, .inl 110, .inl 111, .inl 112, .inl 113, .inl 114, .inl 115, .inl 116, .inl 117, .inl 118, .inr false, .inr true, .inr true])) := rfl
theorem ct_109 : ctab[109]? = some (.inr (8, 0)) := rfl
theorem ct_110 : ctab[110]? = some (.inr (48, 0)) := rfl
theorem ct_111 : ctab[111]? = some (.inr (8, 0)) := rfl
theorem ct_112 : ctab[112]? = some (.inr (8, 0)) := rfl
theorem ct_113 : ctab[113]? = some (.inr (8, 0)) := rfl
theorem ct_114 : ctab[114]? = some (.inr (8, 0)) := rfl
theorem ct_115 : ctab[115]? = some (.inr (8, 0)) := rfl
theorem ct_116 : ctab[116]? = some (.inr (32, 0)) := rfl
theorem ct_117 : ctab[117]? = some (.inr (32, 0)) := rfl
theorem ct_118 : ctab[118]? = some (.inr (8, 1)) := rfl
theorem ct_119 : ctab[119]? = some (.inl (1, [.inl 120, .inl 121, .inl 122, .inl 123, .inl 124, .inl 125, .inl 126, .inl 127, .inl 128, .inl 129, .inr false, .inr true, .inr true])) := rfl
theorem ct_120 : ctab[120]? = some (.inr (8, 0)) := rfl
theorem ct_121 : ctab[121]? = some (.inr (48, 0)) := rfl
theorem ct_122 : ctab[122]? = some (.inr (8, 0)) := rfl
theorem ct_123 : ctab[123]? = some (.inr (8, 0)) := rfl
theorem ct_124 : ctab[124]? = some (.inr (8, 0)) := rfl
theorem ct_125 : ctab[125]? = some (.inr (8, 0)) := rfl
theorem ct_126 : ctab[126]? = some (.inr (8, 0)) := rfl
theorem ct_127 : ctab[127]? = some (.inr (32, 0)) := rfl
theorem ct_128 : ctab[128]? = some (.inr (32, 0)) := rfl
theorem ct_129 : ctab[129]? = some (.inr (8, 1)) := rfl
theorem ct_130 : ctab[130]? = some (.inl (11, [.inr false, .inl 131, .inl 132, .inl 133, .inl 134, .inl 135, .inl 136, .inl 137, .inl 138, .inl 139, .inr false, .inr true, .inr false, .inr true, .inr true, .inl 140, .inl 141, .inl 142, .inl 143, .inl 144, .inl 145, .inl 146, .inl 147, .inl 148, .inl 149, .inl 150, .inl 151, .inl 152, .inr false, .inl 153, .inl 154, .inl 155, .inr false, .inl 156, .inl 157, .inr false, .inr false, .inr false, .inr false, .inl 158, .inr true, .inr true, .inr true, .inr true, .inr false, .inr true, .inr true, .inr false, .inl 159, .inl 160, .inr true, .inr true, .inr true, .inr true, .inl 161, .inl 162, .inl 163, .inl 164, .inl 165, .inl 166, .inl 167, .inr false, .inr false, .inr true, .inr true, .inr true, .inl 168, .inl 169, .inl 170, .inl 171, .inl 172, .inl 173, .inl 174, .inl 175, .inl 176, .inr false])) := rfl
theorem ct_131 : ctab[131]? = some (.inr (8, 0)) := rfl
theorem ct_132 : ctab[132]? = some (.inr (8, 0)) := rfl
theorem ct_133 : ctab[133]? = some (.inr (8, 0)) := rfl
theorem ct_134 : ctab[134]? = some (.inr (8, 0)) := rfl
theorem ct_135 : ctab[135]? = some (.inr (8, 0)) := rfl
theorem ct_136 : ctab[136]? = some (.inr (8, 0)) := rfl
theorem ct_137 : ctab[137]? = some (.inr (8, 0)) := rfl
theorem ct_138 : ctab[138]? = some (.inr (8, 0)) := rfl
theorem ct_139 : ctab[139]? = some (.inr (8, 0)) := rfl
theorem ct_140 : ctab[140]? = some (.inr (8, 0)) := rfl
theorem ct_141 : ctab[141]? = some (.inr (8, 1)) := rfl
theorem ct_142 : ctab[142]? = some (.inr (64, 1)) := rfl
theorem ct_143 : ctab[143]? = some (.inr (56, 1)) := rfl
theorem ct_144 : ctab[144]? = some (.inr (32, 1)) := rfl
theorem ct_145 : ctab[145]? = some (.inr (8, 1)) := rfl
theorem ct_146 : ctab[146]? = some (.inr (8, 1)) := rfl
theorem ct_147 : ctab[147]? = some (.inr (8, 1)) := rfl
theorem ct_148 : ctab[148]? = some (.inr (8, 1)) := rfl
theorem ct_149 : ctab[149]? = some (.inr (320, 1)) := rfl
theorem ct_150 : ctab[150]? = some (.inr (320, 1)) := rfl
theorem ct_151 : ctab[151]? = some (.inr (8, 1)) := rfl
theorem ct_152 : ctab[152]? = some (.inr (8, 1)) := rfl
theorem ct_153 : ctab[153]? = some (.inr (12, 0)) := rfl
theorem ct_154 : ctab[154]? = some (.inr (1440, 0)) := rfl
theorem ct_155 : ctab[155]? = some (.inr (120, 0)) := rfl
theorem ct_156 : ctab[156]? = some (.inr (54, 0)) := rfl
theorem ct_157 : ctab[157]? = some (.inr (130, 0)) := rfl
theorem ct_158 : ctab[158]? = some (.inr (130, 1)) := rfl
theorem ct_159 : ctab[159]? = some (.inr (31, 1)) := rfl
theorem ct_160 : ctab[160]? = some (.inr (31, 1)) := rfl
theorem ct_161 : ctab[161]? = some (.inr (3, 1)) := rfl
theorem ct_162 : ctab[162]? = some (.inr (3, 1)) := rfl
theorem ct_163 : ctab[163]? = some (.inr (5, 1)) := rfl
theorem ct_164 : ctab[164]? = some (.inr (5, 1)) := rfl
theorem ct_165 : ctab[165]? = some (.inr (5, 0)) := rfl
theorem ct_166 : ctab[166]? = some (.inr (50, 1)) := rfl
theorem ct_167 : ctab[167]? = some (.inr (25, 1)) := rfl
theorem ct_168 : ctab[168]? = some (.inr (3, 1)) := rfl
theorem ct_169 : ctab[169]? = some (.inr (8, 0)) := rfl
theorem ct_170 : ctab[170]? = some (.inr (40, 1)) := rfl
theorem ct_171 : ctab[171]? = some (.inr (64, 1)) := rfl
theorem ct_172 : ctab[172]? = some (.inr (56, 1)) := rfl
theorem ct_173 : ctab[173]? = some (.inr (32, 1)) := rfl
theorem ct_174 : ctab[174]? = some (.inr (320, 1)) := rfl
theorem ct_175 : ctab[175]? = some (.inr (320, 1)) := rfl
theorem ct_176 : ctab[176]? = some (.inr (6, 0)) := rfl
def isFl (b : Nat) : Prop := ∃ i, i < 7 ∧ b = 53 + 11 * i
def isSh (b : Nat) : Prop := b = 18 ∨ b = 44
def isFr (b : Nat) : Prop := ∃ i, i < 12 ∧ b = 25 + i
theorem fl_0 {b : Nat} (h : isFl b) : ctab[b]? = some (.inl (1, [.inl (b + 1), .inl (b + 2), .inl (b + 3), .inl (b + 4), .inl (b + 5), .inl (b + 6), .inl (b + 7), .inl (b + 8), .inl (b + 9), .inl (b + 10), .inr false, .inr true, .inr true])) := by
  obtain ⟨i, hi, rfl⟩ := h
  match i, hi with
  | 0, _ => rfl
  | 1, _ => rfl
  | 2, _ => rfl
  | 3, _ => rfl
  | 4, _ => rfl
  | 5, _ => rfl
  | 6, _ => rfl
theorem fl_1 {b : Nat} (h : isFl b) : ctab[b + 1]? = some (.inr (8, 0)) := by
  obtain ⟨i, hi, rfl⟩ := h
  match i, hi with
  | 0, _ => rfl
  | 1, _ => rfl
  | 2, _ => rfl
  | 3, _ => rfl
  | 4, _ => rfl
  | 5, _ => rfl
  | 6, _ => rfl
theorem fl_2 {b : Nat} (h : isFl b) : ctab[b + 2]? = some (.inr (48, 0)) := by
  obtain ⟨i, hi, rfl⟩ := h
  match i, hi with
  | 0, _ => rfl
  | 1, _ => rfl
  | 2, _ => rfl
  | 3, _ => rfl
  | 4, _ => rfl
  | 5, _ => rfl
  | 6, _ => rfl
theorem fl_3 {b : Nat} (h : isFl b) : ctab[b + 3]? = some (.inr (8, 0)) := by
  obtain ⟨i, hi, rfl⟩ := h
  match i, hi with
  | 0, _ => rfl
  | 1, _ => rfl
  | 2, _ => rfl
  | 3, _ => rfl
  | 4, _ => rfl
  | 5, _ => rfl
  | 6, _ => rfl
theorem fl_4 {b : Nat} (h : isFl b) : ctab[b + 4]? = some (.inr (8, 0)) := by
  obtain ⟨i, hi, rfl⟩ := h
  match i, hi with
  | 0, _ => rfl
  | 1, _ => rfl
  | 2, _ => rfl
  | 3, _ => rfl
  | 4, _ => rfl
  | 5, _ => rfl
  | 6, _ => rfl
theorem fl_5 {b : Nat} (h : isFl b) : ctab[b + 5]? = some (.inr (8, 0)) := by
  obtain ⟨i, hi, rfl⟩ := h
  match i, hi with
  | 0, _ => rfl
  | 1, _ => rfl
  | 2, _ => rfl
  | 3, _ => rfl
  | 4, _ => rfl
  | 5, _ => rfl
  | 6, _ => rfl
theorem fl_6 {b : Nat} (h : isFl b) : ctab[b + 6]? = some (.inr (8, 0)) := by
  obtain ⟨i, hi, rfl⟩ := h
  match i, hi with
  | 0, _ => rfl
  | 1, _ => rfl
  | 2, _ => rfl
  | 3, _ => rfl
  | 4, _ => rfl
  | 5, _ => rfl
  | 6, _ => rfl
theorem fl_7 {b : Nat} (h : isFl b) : ctab[b + 7]? = some (.inr (8, 0)) := by
  obtain ⟨i, hi, rfl⟩ := h
  match i, hi with
  | 0, _ => rfl
  | 1, _ => rfl
  | 2, _ => rfl
  | 3, _ => rfl
  | 4, _ => rfl
  | 5, _ => rfl
  | 6, _ => rfl
theorem fl_8 {b : Nat} (h : isFl b) : ctab[b + 8]? = some (.inr (32, 0)) := by
  obtain ⟨i, hi, rfl⟩ := h
  match i, hi with
  | 0, _ => rfl
  | 1, _ => rfl
  | 2, _ => rfl
  | 3, _ => rfl
  | 4, _ => rfl
  | 5, _ => rfl
  | 6, _ => rfl
theorem fl_9 {b : Nat} (h : isFl b) : ctab[b + 9]? = some (.inr (32, 0)) := by
  obtain ⟨i, hi, rfl⟩ := h
  match i, hi with
  | 0, _ => rfl
  | 1, _ => rfl
  | 2, _ => rfl
  | 3, _ => rfl
  | 4, _ => rfl
  | 5, _ => rfl
  | 6, _ => rfl
theorem fl_10 {b : Nat} (h : isFl b) : ctab[b + 10]? = some (.inr (8, 1)) := by
  obtain ⟨i, hi, rfl⟩ := h
  match i, hi with
  | 0, _ => rfl
  | 1, _ => rfl
  | 2, _ => rfl
  | 3, _ => rfl
  | 4, _ => rfl
  | 5, _ => rfl
  | 6, _ => rfl
theorem sh_0 {b : Nat} (h : isSh b) : ctab[b]? = some (.inl (8, [.inl (b + 1), .inl (b + 2), .inr false])) := by
  rcases h with rfl | rfl <;> rfl
theorem sh_1 {b : Nat} (h : isSh b) : ctab[b + 1]? = some (.inr (8, 0)) := by
  rcases h with rfl | rfl <;> rfl
theorem sh_2 {b : Nat} (h : isSh b) : ctab[b + 2]? = some (.inr (8, 0)) := by
  rcases h with rfl | rfl <;> rfl
theorem fr_0 {b : Nat} (h : isFr b) : ctab[b]? = some (.inl (2, [.inr true, .inr true, .inr false])) := by
  obtain ⟨i, hi, rfl⟩ := h
  match i, hi with
  | 0, _ => rfl
  | 1, _ => rfl
  | 2, _ => rfl
  | 3, _ => rfl
  | 4, _ => rfl
  | 5, _ => rfl
  | 6, _ => rfl
  | 7, _ => rfl
  | 8, _ => rfl
  | 9, _ => rfl
  | 10, _ => rfl
  | 11, _ => rfl
theorem isFl_of {i : Int32} (h : inb i 7 = true) : isFl (53 + 11 * i.toNatClampNeg) := by
  refine ⟨i.toNatClampNeg, ?_, rfl⟩
  have := inb_in h
  unfold vp_in at this
  omega
theorem isFl_lit_53 : isFl 53 := ⟨0, by decide, rfl⟩
theorem isFl_lit_64 : isFl 64 := ⟨1, by decide, rfl⟩
theorem isFl_lit_75 : isFl 75 := ⟨2, by decide, rfl⟩
theorem isFl_lit_86 : isFl 86 := ⟨3, by decide, rfl⟩
theorem isFl_lit_97 : isFl 97 := ⟨4, by decide, rfl⟩
theorem isFl_lit_108 : isFl 108 := ⟨5, by decide, rfl⟩
theorem isFl_lit_119 : isFl 119 := ⟨6, by decide, rfl⟩
theorem isSh_lit_18 : isSh 18 := by unfold isSh; decide
theorem isSh_lit_44 : isSh 44 := by unfold isSh; decide
theorem isFr_lit_25 : isFr 25 := ⟨0, by decide, rfl⟩
theorem isFr_lit_26 : isFr 26 := ⟨1, by decide, rfl⟩
theorem isFr_lit_27 : isFr 27 := ⟨2, by decide, rfl⟩
theorem isFr_lit_28 : isFr 28 := ⟨3, by decide, rfl⟩
theorem isFr_lit_29 : isFr 29 := ⟨4, by decide, rfl⟩
theorem isFr_lit_30 : isFr 30 := ⟨5, by decide, rfl⟩
theorem isFr_lit_31 : isFr 31 := ⟨6, by decide, rfl⟩
theorem isFr_lit_32 : isFr 32 := ⟨7, by decide, rfl⟩
theorem isFr_lit_33 : isFr 33 := ⟨8, by decide, rfl⟩
theorem isFr_lit_34 : isFr 34 := ⟨9, by decide, rfl⟩
theorem isFr_lit_35 : isFr 35 := ⟨10, by decide, rfl⟩
theorem isFr_lit_36 : isFr 36 := ⟨11, by decide, rfl⟩
