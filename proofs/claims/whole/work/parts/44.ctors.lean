theorem wm_1_11 : Cond.instanceMethod objectInit ∈ wsL_law := in_r1 _ (mm_at 11 rfl)
theorem wm_1_12 : Cond.code objectInit ⟨#[0xb1]⟩ 1 none ∈ wsL_law := in_r1 _ (mm_at 12 rfl)
theorem wm_3_8 : Cond.arrayClass .int ∈ wsL_law := in_r3 _ (mm_at 8 rfl)
theorem wm_4_13 : Cond.methodLink RX8 3 objectInit ∈ wsL_law := in_r4 _ (mm_at 13 rfl)
theorem wm_5_16 : Cond.methodLink RX2 3 objectInit ∈ wsL_law := in_r5 _ (mm_at 16 rfl)
/-! ===== constructors ===== -/
def KN (U : State) : Prop := (va_Nw (.methodLinkNest RX0 9 yX8_init "OrderEcho") U ∧ va_Nw (.methodLinkNest RX10 11 yX6_init "OrderEcho") U ∧ va_Nw (.methodLinkNest RX10 20 yX7_init "OrderEcho") U ∧ va_Nw (.methodLinkNest RX10 27 yX9_init "OrderEcho") U ∧ va_Nw (.methodLinkNest RX10 34 yX8_init "OrderEcho") U ∧ va_Nw (.methodLinkNest RX10 41 yX5_init "OrderEcho") U ∧ va_Nw (.methodLinkNest RX10 55 yX2_init "OrderEcho") U ∧ va_Nw (.methodLinkNest RX10 69 yX0_init "OrderEcho") U ∧ va_Nw (.methodLinkNest RX10 84 yX1_init "OrderEcho") U ∧ va_Nw (.methodLinkNest RX4 9 yX2_init "OrderEcho") U) ∧ va_AO RX1 U
theorem KN.warm {s U : State} (hW : s.WarmedH U.vm) (h : KN s) : KN U := by
  obtain ⟨⟨h1, h2, h3, h4, h5, h6, h7, h8, h9, h10⟩, h0⟩ := h
  exact ⟨⟨va_Nw.warmM hW h1, va_Nw.warmM hW h2, va_Nw.warmM hW h3, va_Nw.warmM hW h4, va_Nw.warmM hW h5, va_Nw.warmM hW h6, va_Nw.warmM hW h7, va_Nw.warmM hW h8, va_Nw.warmM hW h9, va_Nw.warmM hW h10⟩, va_AO.moved hW.alike h0⟩
theorem KN.calling {U : State} {g : JFrame} {mk : MethodId} {a : Array Value} (h : KN U) : KN (U.calling g mk a) := by
  obtain ⟨⟨h1, h2, h3, h4, h5, h6, h7, h8, h9, h10⟩, h0⟩ := h
  exact ⟨⟨va_Nw.same (u := U) rfl rfl h1, va_Nw.same (u := U) rfl rfl h2, va_Nw.same (u := U) rfl rfl h3, va_Nw.same (u := U) rfl rfl h4, va_Nw.same (u := U) rfl rfl h5, va_Nw.same (u := U) rfl rfl h6, va_Nw.same (u := U) rfl rfl h7, va_Nw.same (u := U) rfl rfl h8, va_Nw.same (u := U) rfl rfl h9, va_Nw.same (u := U) rfl rfl h10⟩, va_AO.moved (u := U) (Vm.Alike.refl U.vm) h0⟩
def Cp (D : va_G) (G : G3) (sz : Nat) (ws : va_W) (U : State) : Prop := U.heap.size = sz ∧ va_P D vwCl ws U.heap ∧ KK D G U ∧ KN U
theorem Cp_blind {D : va_G} {G : G3} {sz : Nat} {ws : va_W} {as : List Value} : FrameBlind (va_Pc as (Cp D G sz ws)) := fun _ _ _ _ q => ⟨q.1, q.2.1, q.2.2.1, q.2.2.2.1.calling, q.2.2.2.2.calling⟩
theorem cp_of {D : va_G} {G : G3} {s : State} {H : Heap} {ws : va_W} {as : List Value} (hK : KK D G s) (hKN : KN s) (hP : va_P D vwCl ws H) : ∀ U : State, U.heap = H → s.WarmedH U.vm → va_Pc as (Cp D G H.size ws) as.toArray U := fun U hU hW => ⟨rfl, by rw [hU], by rw [hU]; exact hP, hK.warm hW, hKN.warm hW⟩
theorem cls_I {D : va_G} {G : G3} {s : State} {cA : ClassId} (hK : KK D G s) (h : va_K D vwCl (tysG G ++ [(cA, .int)]) s) : cA = G.1 := Option.some.inj ((show s.vm.findClass _ = some cA from (h.2 3 _ rfl).2).symm.trans (show s.vm.findClass _ = some G.1 from (hK.1.2 0 _ rfl).2))
theorem cls_J {D : va_G} {G : G3} {s : State} {cA : ClassId} (hK : KK D G s) (h : va_K D vwCl (tysG G ++ [(cA, .long)]) s) : cA = G.2.1 := Option.some.inj ((show s.vm.findClass _ = some cA from (h.2 3 _ rfl).2).symm.trans (show s.vm.findClass _ = some G.2.1 from (hK.1.2 1 _ rfl).2))
theorem cls_F {D : va_G} {G : G3} {s : State} {cA : ClassId} (hK : KK D G s) (h : va_K D vwCl (tysG G ++ [(cA, .object RX1)]) s) : cA = G.2.2 := by
  obtain ⟨_, _, _, _, _, h1⟩ := (h.2 3 _ rfl).2
  obtain ⟨_, _, _, _, _, h2⟩ := (hK.1.2 2 _ rfl).2
  exact Option.some.inj (h1.symm.trans h2)
theorem one_D (a : Nat) (e : va_E) (sz : Nat) : va_D (va_A [(a, e)] sz) [(a, e)] := by
  refine ⟨fun i j p q hp hq _ => ?_, fun k q hq => ?_⟩
  · have h1 := (List.getElem?_eq_some_iff.mp hp).1
    have h2 := (List.getElem?_eq_some_iff.mp hq).1
    simp only [List.length_cons, List.length_nil] at h1 h2
    omega
  · exact Or.inl ⟨k, q.2, hq⟩
theorem arrV_congr {cA : ClassId} {n : Nat} {f g : Nat → Value} (h : ∀ j, j < n → f j = g j) : arrV cA n f = arrV cA n g := by
  unfold arrV
  congr 2
  funext j
  exact h j.val j.isLt
theorem va_P_flow {D : va_G} {ws : va_W} {H : Heap} {a : Nat} {cA : ClassId} {f g : Nat → Option Nat} {i n : Nat} (h : va_P D vwCl ws H) (hi : ws[i]? = some (a, .inl (cA, n, .inr (.inr (.inr (.inr f)))))) (hg : ∀ j, j < n → g j = f j) : va_P D vwCl (ws.set i (a, .inl (cA, n, .inr (.inr (.inr (.inr g)))))) H := by
  intro k q hq
  rw [List.getElem?_set] at hq
  by_cases hk : i = k
  · subst hk
    have hlt := (List.getElem?_eq_some_iff.mp hi).1
    rw [if_pos rfl, if_pos hlt] at hq
    have e := Option.some.inj hq
    rw [← e]
    have h0 := h i _ hi
    show H[a]? = some (vp_cell cA (n, .inr (.inr (.inr (.inr g)))))
    have h1 : H[a]? = some (vp_cell cA (n, .inr (.inr (.inr (.inr f))))) := h0
    rw [h1, vp_cell_q, vp_cell_q]
    exact congrArg some (arrV_congr fun j hj => by rw [hg j hj])
  · rw [if_neg hk] at hq
    exact h k q hq
theorem dfX0 : ∀ j, j < 2 → defaultValue (tyX0 j) = vp_V [.null, .null] j := by decide +kernel
theorem dfX1 : ∀ j, j < 13 → defaultValue (tyX1 j) = vp_V [.null, .null, .null, .null, .null, .null, .null, .null, .null, .null, .int 0, .long 0, .long 0] j := by decide +kernel
theorem dfX2 : ∀ j, j < 3 → defaultValue (tyX2 j) = vp_V [.long 0, .long 0, .int 0] j := by decide +kernel
theorem dfX3 : ∀ j, j < 12 → defaultValue (tyX3 j) = vp_V [.null, .null, .null, .null, .null, .int 0, .int 0, .int 0, .int 0, .int 0, .int 0, .long 0] j := by decide +kernel
theorem dfX4 : ∀ j, j < 11 → defaultValue (tyX4 j) = vp_V [.null, .null, .null, .null, .null, .null, .null, .null, .null, .null, .null] j := by decide +kernel
theorem dfX5 : ∀ j, j < 2 → defaultValue (tyX5 j) = vp_V [.null, .null] j := by decide +kernel
theorem dfX6 : ∀ j, j < 13 → defaultValue (tyX6 j) = vp_V [.null, .null, .null, .null, .null, .null, .null, .null, .null, .int 0, .int 0, .int 0, .long 0] j := by decide +kernel
theorem dfX7 : ∀ j, j < 4 → defaultValue (tyX7 j) = vp_V [.null, .null, .null, .int 0] j := by decide +kernel
theorem dfX8 : ∀ j, j < 3 → defaultValue (tyX8 j) = vp_V [.null, .null, .int 0] j := by decide +kernel
theorem dfX9 : ∀ j, j < 5 → defaultValue (tyX9 j) = vp_V [.null, .null, .int 0, .int 0, .int 0] j := by decide +kernel
def nX2 (G : G3) (a : Nat) (x : Nat → Nat) : va_W := [(a, .inr (2, [.long 0, .long 1, .int 0]))]
set_option maxHeartbeats 40000000 in
set_option maxRecDepth 100000 in
theorem kX2_init (l : Launch) (D : va_G) (G : G3) (a : Nat) {sz : Nat} : Met l yX2_init (wsU yX2_init cX2_init 1 none) ({ frames := 1, cells := 0, slots := 0, locals := 50 } : Room) (va_Pc [.ref a] (Cp D G sz [(a, .inr (2, [.long 0, .long 0, .int 0]))])) (va_Qv (fun _ : Nat → Nat => True) (fun x t => va_P D vwCl (nX2 G a x) t.heap ∧ va_D (va_A [(a, .inr (2, [.long 0, .long 0, .int 0]))] sz) (nX2 G a x)) (va_A [(a, .inr (2, [.long 0, .long 0, .int 0]))] sz)) 0 0 (va_A [(a, .inr (2, [.long 0, .long 0, .int 0]))] sz) := by
  refine Met.ofW (cc := cX2_init) (maxL := 1) (ret := none) (by decide) rfl ?_
  intro p e s m args below meth c s₁ B hml hv
  obtain ⟨rfl, hsz, hP, hK, hKN⟩ := hv
  have hts0 := atoms_spec (ws := wsU yX2_init cX2_init 1 none) B.pre
  have hts : ∀ w ∈ wsL_law, w.before _ s = true := fun w h => hts0 w (List.mem_cons_of_mem _ h)
  have hx := B.exec
  have hb := B.bytes
  have hr := B.returns
  have hlk := B.notSynchronized
  have hown : s.vm.findClass RX2 = some m.cls := findClass_of_methodNamed B.named
  have hin : meth.name = "<init>" := (name_of_methodNamed B.named B.method).1
  subst hsz
  have hD := one_D a (.inr (2, [.long 0, .long 0, .int 0])) s.heap.size
  generalize hAe : va_A [(a, .inr (2, [.long 0, .long 0, .int 0]))] s.heap.size = A at hD ⊢
  have hA : ∀ q : Nat, s.heap.size ≤ q → A q := fun q h => by rw [← hAe]; exact Or.inr h
  have hS : va_S A s.heap s.heap [] := va_S.rf
  have hl := lv_entry ([.ref a]) (n := 1) (Nat.le_of_ble_eq_true rfl)
  rw [lg_entry_eq]
  generalize (lg_sl ([.ref a]) ++ List.replicate (1 - (lg_sl ([.ref a])).length) Slot.unset).toArray = ls at hl ⊢
  have hl : lv_has ls 1 [(0, .ref a)] := hl
  have hP : va_P D vwCl [(a, .inr (2, [.long 0, .long 0, .int 0]))] s.heap := hP
  refine lv_aload_n hx hb dX2_init_0 rfl (lv_at hl 0 rfl) ?_
  refine W.objInit hx hb hown (hts _ wm_5_16) (hts _ wm_1_11) (hts _ wm_1_12) rfl (by rw [hml]; exact hl.1) rfl dX2_init_1 (Nat.le_of_ble_eq_true rfl) (Nat.le_of_ble_eq_true rfl) ?_
  refine W.eq (g2 := F0 m 4 ls []) rfl ?_
  refine lv_aload_n hx hb dX2_init_4 rfl (lv_at hl 0 rfl) ?_
  refine lv_lconst (v := 1) hx hb dX2_init_5 (by decide) ?_
  refine va_put hx hb hts inlX2 tyX2 tyX2_ok nmX2 hown hK.1 hP hD hS 0 rfl rfl 1 (by decide) (hts _ wm_5_17) (fun _ h => h) rfl rfl rfl rfl (Nat.le_of_ble_eq_true rfl) dX2_init_6 (fun H locs hP hD hS => ?_)
  have hP : va_P D vwCl [(a, .inr (2, [.long 0, .long 1, .int 0]))] H := hP
  have hD : va_D A [(a, .inr (2, [.long 0, .long 1, .int 0]))] := hD
  have hPf : va_P D vwCl ([(a, .inr (2, [.long 0, .long 1, .int 0]))]) H := hP.sub [0] rfl
  have hDf : va_D A ([(a, .inr (2, [.long 0, .long 1, .int 0]))]) := hD.sub [0] (by decide) rfl
  exact W.vret hx hb hr (fun t ht _ => ⟨⟨fun i => [a].getD i 0, rfl, trivial, by rw [ht]; exact hPf, hDf⟩, hS.F ht⟩) hS.2.2 dX2_init_9 hlk
def nX8 (G : G3) (a : Nat) (x : Nat → Nat) : va_W := [(a, .inr (8, [.ref (x 1), .ref (x 2), .int 0])), ((x 1), .inl (G.1, 8, .inl (fun _ => 0))), ((x 2), .inl (G.1, 8, .inl (fun _ => 0)))]
set_option maxHeartbeats 40000000 in
set_option maxRecDepth 100000 in
theorem kX8_init (l : Launch) (D : va_G) (G : G3) (a : Nat) {sz : Nat} : Met l yX8_init (wsU yX8_init cX8_init 1 none) ({ frames := 1, cells := 2, slots := 16, locals := 50 } : Room) (va_Pc [.ref a] (Cp D G sz [(a, .inr (8, [.null, .null, .int 0]))])) (va_Qv (fun _ : Nat → Nat => True) (fun x t => va_P D vwCl (nX8 G a x) t.heap ∧ va_D (va_A [(a, .inr (8, [.null, .null, .int 0]))] sz) (nX8 G a x)) (va_A [(a, .inr (8, [.null, .null, .int 0]))] sz)) 2 16 (va_A [(a, .inr (8, [.null, .null, .int 0]))] sz) := by
  refine Met.ofW (cc := cX8_init) (maxL := 1) (ret := none) (by decide) rfl ?_
  intro p e s m args below meth c s₁ B hml hv
  obtain ⟨rfl, hsz, hP, hK, hKN⟩ := hv
  have hts0 := atoms_spec (ws := wsU yX8_init cX8_init 1 none) B.pre
  have hts : ∀ w ∈ wsL_law, w.before _ s = true := fun w h => hts0 w (List.mem_cons_of_mem _ h)
  have hx := B.exec
  have hb := B.bytes
  have hr := B.returns
  have hlk := B.notSynchronized
  have hown : s.vm.findClass RX8 = some m.cls := findClass_of_methodNamed B.named
  have hin : meth.name = "<init>" := (name_of_methodNamed B.named B.method).1
  subst hsz
  have hD := one_D a (.inr (8, [.null, .null, .int 0])) s.heap.size
  generalize hAe : va_A [(a, .inr (8, [.null, .null, .int 0]))] s.heap.size = A at hD ⊢
  have hA : ∀ q : Nat, s.heap.size ≤ q → A q := fun q h => by rw [← hAe]; exact Or.inr h
  have hS : va_S A s.heap s.heap [] := va_S.rf
  have hl := lv_entry ([.ref a]) (n := 1) (Nat.le_of_ble_eq_true rfl)
  rw [lg_entry_eq]
  generalize (lg_sl ([.ref a]) ++ List.replicate (1 - (lg_sl ([.ref a])).length) Slot.unset).toArray = ls at hl ⊢
  have hl : lv_has ls 1 [(0, .ref a)] := hl
  have hP : va_P D vwCl [(a, .inr (8, [.null, .null, .int 0]))] s.heap := hP
  refine lv_aload_n hx hb dX8_init_0 rfl (lv_at hl 0 rfl) ?_
  refine W.objInit hx hb hown (hts _ wm_4_13) (hts _ wm_1_11) (hts _ wm_1_12) rfl (by rw [hml]; exact hl.1) rfl dX8_init_1 (Nat.le_of_ble_eq_true rfl) (Nat.le_of_ble_eq_true rfl) ?_
  refine W.eq (g2 := F0 m 4 ls []) rfl ?_
  refine lv_aload_n hx hb dX8_init_4 rfl (lv_at hl 0 rfl) ?_
  refine lv_bipush (v := 8) hx hb dX8_init_5 (by decide) ?_
  refine va_newa (atype := .int) (n := 8) (N' := 8) (a0 := (8, .inl (fun _ => 0))) hx hb (hts _ wm_3_8) rfl hK.1 hP hD hS hA (fun _ => rfl) (by decide) (by decide) (Nat.le_of_ble_eq_true rfl) (Nat.le_of_ble_eq_true rfl) (Nat.le_of_ble_eq_true rfl) dX8_init_7 (fun q1 cA H hK2 hP hD hS => ?_)
  obtain rfl := cls_I hK hK2
  clear hK2
  have hP : va_P D vwCl [(a, .inr (8, [.null, .null, .int 0])), (q1, .inl (G.1, 8, .inl (fun _ => 0)))] H := hP
  have hD : va_D A [(a, .inr (8, [.null, .null, .int 0])), (q1, .inl (G.1, 8, .inl (fun _ => 0)))] := hD
  refine W.widen (k := 1) (n := 8) (Nat.le_of_ble_eq_true rfl) (Nat.le_of_ble_eq_true rfl) ?_
  refine va_putF hx hb hts inlX8 tyX8 tyX8_ok nmX8 hown hK.1 hP hD hS 0 rfl rfl 0 (by decide) (hts _ wm_4_14) (fun _ h => h) rfl hin rfl rfl rfl rfl (Nat.le_of_ble_eq_true rfl) dX8_init_9 (fun H locs hP hD hS => ?_)
  have hP : va_P D vwCl [(a, .inr (8, [.ref q1, .null, .int 0])), (q1, .inl (G.1, 8, .inl (fun _ => 0)))] H := hP
  have hD : va_D A [(a, .inr (8, [.ref q1, .null, .int 0])), (q1, .inl (G.1, 8, .inl (fun _ => 0)))] := hD
  refine lv_aload_n hx hb dX8_init_12 rfl (lv_at hl 0 rfl) ?_
  refine lv_bipush (v := 8) hx hb dX8_init_13 (by decide) ?_
  refine va_newa (atype := .int) (n := 8) (N' := 8) (a0 := (8, .inl (fun _ => 0))) hx hb (hts _ wm_3_8) rfl hK.1 hP hD hS hA (fun _ => rfl) (by decide) (by decide) (Nat.le_of_ble_eq_true rfl) (Nat.le_of_ble_eq_true rfl) (Nat.le_of_ble_eq_true rfl) dX8_init_15 (fun q2 cA H hK2 hP hD hS => ?_)
  obtain rfl := cls_I hK hK2
  clear hK2
  have hP : va_P D vwCl [(a, .inr (8, [.ref q1, .null, .int 0])), (q1, .inl (G.1, 8, .inl (fun _ => 0))), (q2, .inl (G.1, 8, .inl (fun _ => 0)))] H := hP
  have hD : va_D A [(a, .inr (8, [.ref q1, .null, .int 0])), (q1, .inl (G.1, 8, .inl (fun _ => 0))), (q2, .inl (G.1, 8, .inl (fun _ => 0)))] := hD
  refine W.widen (k := 2) (n := 16) (Nat.le_of_ble_eq_true rfl) (Nat.le_of_ble_eq_true rfl) ?_
  refine va_putF hx hb hts inlX8 tyX8 tyX8_ok nmX8 hown hK.1 hP hD hS 0 rfl rfl 1 (by decide) (hts _ wm_4_15) (fun _ h => h) rfl hin rfl rfl rfl rfl (Nat.le_of_ble_eq_true rfl) dX8_init_17 (fun H locs hP hD hS => ?_)
  have hP : va_P D vwCl [(a, .inr (8, [.ref q1, .ref q2, .int 0])), (q1, .inl (G.1, 8, .inl (fun _ => 0))), (q2, .inl (G.1, 8, .inl (fun _ => 0)))] H := hP
  have hD : va_D A [(a, .inr (8, [.ref q1, .ref q2, .int 0])), (q1, .inl (G.1, 8, .inl (fun _ => 0))), (q2, .inl (G.1, 8, .inl (fun _ => 0)))] := hD
  have hPf : va_P D vwCl ([(a, .inr (8, [.ref q1, .ref q2, .int 0])), (q1, .inl (G.1, 8, .inl (fun _ => 0))), (q2, .inl (G.1, 8, .inl (fun _ => 0)))]) H := hP.sub [0, 1, 2] rfl
  have hDf : va_D A ([(a, .inr (8, [.ref q1, .ref q2, .int 0])), (q1, .inl (G.1, 8, .inl (fun _ => 0))), (q2, .inl (G.1, 8, .inl (fun _ => 0)))]) := hD.sub [0, 1, 2] (by decide) rfl
  exact W.vret hx hb hr (fun t ht _ => ⟨⟨fun i => [a, q1, q2].getD i 0, rfl, trivial, by rw [ht]; exact hPf, hDf⟩, hS.F ht⟩) hS.2.2 dX8_init_20 hlk
