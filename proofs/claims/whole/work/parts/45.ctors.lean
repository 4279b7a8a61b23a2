theorem wm_2_2 : Cond.instantiable RX8 3 ∈ wsL_law := in_r2 _ (mm_at 2 rfl)
theorem wm_2_14 : Cond.instantiable RX2 3 ∈ wsL_law := in_r2 _ (mm_at 14 rfl)
theorem wm_3_1 : Cond.arrayClass .long ∈ wsL_law := in_r3 _ (mm_at 1 rfl)
theorem wm_3_14 : Cond.methodLink RX6 3 objectInit ∈ wsL_law := in_r3 _ (mm_at 14 rfl)
theorem wm_4_2 : Cond.methodLink RX7 3 objectInit ∈ wsL_law := in_r4 _ (mm_at 2 rfl)
theorem wm_4_8 : Cond.methodLink RX9 3 objectInit ∈ wsL_law := in_r4 _ (mm_at 8 rfl)
theorem wm_4_11 : Cond.instanceMethod yX8_init ∈ wsL_law := in_r4 _ (mm_at 11 rfl)
theorem wm_4_12 : Cond.code yX8_init cX8_init 1 none ∈ wsL_law := in_r4 _ (mm_at 12 rfl)
theorem wm_4_18 : Cond.methodLink RX5 3 objectInit ∈ wsL_law := in_r4 _ (mm_at 18 rfl)
theorem wm_5_0 : Cond.methodLink RX4 1 objectInit ∈ wsL_law := in_r5 _ (mm_at 0 rfl)
theorem wm_5_1 : Cond.classLink RX4 7 RX2 ∈ wsL_law := in_r5 _ (mm_at 1 rfl)
theorem wm_5_14 : Cond.instanceMethod yX2_init ∈ wsL_law := in_r5 _ (mm_at 14 rfl)
theorem wm_5_15 : Cond.code yX2_init cX2_init 1 none ∈ wsL_law := in_r5 _ (mm_at 15 rfl)
theorem wm_5_21 : Cond.methodLink RX3 3 objectInit ∈ wsL_law := in_r5 _ (mm_at 21 rfl)
theorem wm_5_23 : Cond.fieldLink RX3 13 "OrderEcho$Levels" "sums" "[J" ∈ wsL_law := in_r5 _ (mm_at 23 rfl)
theorem wm_6_5 : Cond.methodLink RX0 1 objectInit ∈ wsL_law := in_r6 _ (mm_at 5 rfl)
theorem wm_6_6 : Cond.classLink RX0 7 RX8 ∈ wsL_law := in_r6 _ (mm_at 6 rfl)
theorem wm_6_11 : Cond.methodLink RX1 3 objectInit ∈ wsL_law := in_r6 _ (mm_at 11 rfl)
def nX6 (G : G3) (a : Nat) (x : Nat → Nat) : va_W := [(a, .inr (6, [.ref (x 1), .ref (x 2), .ref (x 3), .ref (x 4), .ref (x 5), .ref (x 6), .ref (x 7), .ref (x 8), .ref (x 9), .int 0, .int 0, .int 0, .long 0])), ((x 1), .inl (G.1, 8, .inl (fun _ => 0))), ((x 2), .inl (G.1, 8, .inl (fun _ => 0))), ((x 3), .inl (G.1, 8, .inl (fun _ => 0))), ((x 4), .inl (G.1, 8, .inl (fun _ => 0))), ((x 5), .inl (G.1, 8, .inl (fun _ => 0))), ((x 6), .inl (G.1, 8, .inl (fun _ => 0))), ((x 7), .inl (G.1, 8, .inl (fun _ => 0))), ((x 8), .inl (G.1, 8, .inl (fun _ => 0))), ((x 9), .inl (G.1, 8, .inl (fun _ => 0)))]
set_option maxHeartbeats 40000000 in
set_option maxRecDepth 100000 in
theorem kX6_init (l : Launch) (D : va_G) (G : G3) (a : Nat) {sz : Nat} : Met l yX6_init (wsU yX6_init cX6_init 1 none) ({ frames := 1, cells := 9, slots := 72, locals := 50 } : Room) (va_Pc [.ref a] (Cp D G sz [(a, .inr (6, [.null, .null, .null, .null, .null, .null, .null, .null, .null, .int 0, .int 0, .int 0, .long 0]))])) (va_Qv (fun _ : Nat → Nat => True) (fun x t => va_P D vwCl (nX6 G a x) t.heap ∧ va_D (va_A [(a, .inr (6, [.null, .null, .null, .null, .null, .null, .null, .null, .null, .int 0, .int 0, .int 0, .long 0]))] sz) (nX6 G a x)) (va_A [(a, .inr (6, [.null, .null, .null, .null, .null, .null, .null, .null, .null, .int 0, .int 0, .int 0, .long 0]))] sz)) 9 72 (va_A [(a, .inr (6, [.null, .null, .null, .null, .null, .null, .null, .null, .null, .int 0, .int 0, .int 0, .long 0]))] sz) := by
  refine Met.ofW (cc := cX6_init) (maxL := 1) (ret := none) (by decide) rfl ?_
  intro p e s m args below meth c s₁ B hml hv
  obtain ⟨rfl, hsz, hP, hK, hKN⟩ := hv
  have hts0 := atoms_spec (ws := wsU yX6_init cX6_init 1 none) B.pre
  have hts : ∀ w ∈ wsL_law, w.before _ s = true := fun w h => hts0 w (List.mem_cons_of_mem _ h)
  have hx := B.exec
  have hb := B.bytes
  have hr := B.returns
  have hlk := B.notSynchronized
  have hown : s.vm.findClass RX6 = some m.cls := findClass_of_methodNamed B.named
  have hin : meth.name = "<init>" := (name_of_methodNamed B.named B.method).1
  subst hsz
  have hD := one_D a (.inr (6, [.null, .null, .null, .null, .null, .null, .null, .null, .null, .int 0, .int 0, .int 0, .long 0])) s.heap.size
  generalize hAe : va_A [(a, .inr (6, [.null, .null, .null, .null, .null, .null, .null, .null, .null, .int 0, .int 0, .int 0, .long 0]))] s.heap.size = A at hD ⊢
  have hA : ∀ q : Nat, s.heap.size ≤ q → A q := fun q h => by rw [← hAe]; exact Or.inr h
  have hS : va_S A s.heap s.heap [] := va_S.rf
  have hl := lv_entry ([.ref a]) (n := 1) (Nat.le_of_ble_eq_true rfl)
  rw [lg_entry_eq]
  generalize (lg_sl ([.ref a]) ++ List.replicate (1 - (lg_sl ([.ref a])).length) Slot.unset).toArray = ls at hl ⊢
  have hl : lv_has ls 1 [(0, .ref a)] := hl
  have hP : va_P D vwCl [(a, .inr (6, [.null, .null, .null, .null, .null, .null, .null, .null, .null, .int 0, .int 0, .int 0, .long 0]))] s.heap := hP
  refine lv_aload_n hx hb dX6_init_0 rfl (lv_at hl 0 rfl) ?_
  refine W.objInit hx hb hown (hts _ wm_3_14) (hts _ wm_1_11) (hts _ wm_1_12) rfl (by rw [hml]; exact hl.1) rfl dX6_init_1 (Nat.le_of_ble_eq_true rfl) (Nat.le_of_ble_eq_true rfl) ?_
  refine W.eq (g2 := F0 m 4 ls []) rfl ?_
  refine lv_aload_n hx hb dX6_init_4 rfl (lv_at hl 0 rfl) ?_
  refine lv_bipush (v := 8) hx hb dX6_init_5 (by decide) ?_
  refine va_newa (atype := .int) (n := 8) (N' := 8) (a0 := (8, .inl (fun _ => 0))) hx hb (hts _ wm_3_8) rfl hK.1 hP hD hS hA (fun _ => rfl) (by decide) (by decide) (Nat.le_of_ble_eq_true rfl) (Nat.le_of_ble_eq_true rfl) (Nat.le_of_ble_eq_true rfl) dX6_init_7 (fun q1 cA H hK2 hP hD hS => ?_)
  obtain rfl := cls_I hK hK2
  clear hK2
  have hP : va_P D vwCl [(a, .inr (6, [.null, .null, .null, .null, .null, .null, .null, .null, .null, .int 0, .int 0, .int 0, .long 0])), (q1, .inl (G.1, 8, .inl (fun _ => 0)))] H := hP
  have hD : va_D A [(a, .inr (6, [.null, .null, .null, .null, .null, .null, .null, .null, .null, .int 0, .int 0, .int 0, .long 0])), (q1, .inl (G.1, 8, .inl (fun _ => 0)))] := hD
  refine W.widen (k := 1) (n := 8) (Nat.le_of_ble_eq_true rfl) (Nat.le_of_ble_eq_true rfl) ?_
  refine va_putF hx hb hts inlX6 tyX6 tyX6_ok nmX6 hown hK.1 hP hD hS 0 rfl rfl 0 (by decide) (hts _ wm_3_15) (fun _ h => h) rfl hin rfl rfl rfl rfl (Nat.le_of_ble_eq_true rfl) dX6_init_9 (fun H locs hP hD hS => ?_)
  have hP : va_P D vwCl [(a, .inr (6, [.ref q1, .null, .null, .null, .null, .null, .null, .null, .null, .int 0, .int 0, .int 0, .long 0])), (q1, .inl (G.1, 8, .inl (fun _ => 0)))] H := hP
  have hD : va_D A [(a, .inr (6, [.ref q1, .null, .null, .null, .null, .null, .null, .null, .null, .int 0, .int 0, .int 0, .long 0])), (q1, .inl (G.1, 8, .inl (fun _ => 0)))] := hD
  refine lv_aload_n hx hb dX6_init_12 rfl (lv_at hl 0 rfl) ?_
  refine lv_bipush (v := 8) hx hb dX6_init_13 (by decide) ?_
  refine va_newa (atype := .int) (n := 8) (N' := 8) (a0 := (8, .inl (fun _ => 0))) hx hb (hts _ wm_3_8) rfl hK.1 hP hD hS hA (fun _ => rfl) (by decide) (by decide) (Nat.le_of_ble_eq_true rfl) (Nat.le_of_ble_eq_true rfl) (Nat.le_of_ble_eq_true rfl) dX6_init_15 (fun q2 cA H hK2 hP hD hS => ?_)
  obtain rfl := cls_I hK hK2
  clear hK2
  have hP : va_P D vwCl [(a, .inr (6, [.ref q1, .null, .null, .null, .null, .null, .null, .null, .null, .int 0, .int 0, .int 0, .long 0])), (q1, .inl (G.1, 8, .inl (fun _ => 0))), (q2, .inl (G.1, 8, .inl (fun _ => 0)))] H := hP
  have hD : va_D A [(a, .inr (6, [.ref q1, .null, .null, .null, .null, .null, .null, .null, .null, .int 0, .int 0, .int 0, .long 0])), (q1, .inl (G.1, 8, .inl (fun _ => 0))), (q2, .inl (G.1, 8, .inl (fun _ => 0)))] := hD
  refine W.widen (k := 2) (n := 16) (Nat.le_of_ble_eq_true rfl) (Nat.le_of_ble_eq_true rfl) ?_
  refine va_putF hx hb hts inlX6 tyX6 tyX6_ok nmX6 hown hK.1 hP hD hS 0 rfl rfl 1 (by decide) (hts _ wm_3_16) (fun _ h => h) rfl hin rfl rfl rfl rfl (Nat.le_of_ble_eq_true rfl) dX6_init_17 (fun H locs hP hD hS => ?_)
  have hP : va_P D vwCl [(a, .inr (6, [.ref q1, .ref q2, .null, .null, .null, .null, .null, .null, .null, .int 0, .int 0, .int 0, .long 0])), (q1, .inl (G.1, 8, .inl (fun _ => 0))), (q2, .inl (G.1, 8, .inl (fun _ => 0)))] H := hP
  have hD : va_D A [(a, .inr (6, [.ref q1, .ref q2, .null, .null, .null, .null, .null, .null, .null, .int 0, .int 0, .int 0, .long 0])), (q1, .inl (G.1, 8, .inl (fun _ => 0))), (q2, .inl (G.1, 8, .inl (fun _ => 0)))] := hD
  refine lv_aload_n hx hb dX6_init_20 rfl (lv_at hl 0 rfl) ?_
  refine lv_bipush (v := 8) hx hb dX6_init_21 (by decide) ?_
  refine va_newa (atype := .int) (n := 8) (N' := 8) (a0 := (8, .inl (fun _ => 0))) hx hb (hts _ wm_3_8) rfl hK.1 hP hD hS hA (fun _ => rfl) (by decide) (by decide) (Nat.le_of_ble_eq_true rfl) (Nat.le_of_ble_eq_true rfl) (Nat.le_of_ble_eq_true rfl) dX6_init_23 (fun q3 cA H hK2 hP hD hS => ?_)
  obtain rfl := cls_I hK hK2
  clear hK2
  have hP : va_P D vwCl [(a, .inr (6, [.ref q1, .ref q2, .null, .null, .null, .null, .null, .null, .null, .int 0, .int 0, .int 0, .long 0])), (q1, .inl (G.1, 8, .inl (fun _ => 0))), (q2, .inl (G.1, 8, .inl (fun _ => 0))), (q3, .inl (G.1, 8, .inl (fun _ => 0)))] H := hP
  have hD : va_D A [(a, .inr (6, [.ref q1, .ref q2, .null, .null, .null, .null, .null, .null, .null, .int 0, .int 0, .int 0, .long 0])), (q1, .inl (G.1, 8, .inl (fun _ => 0))), (q2, .inl (G.1, 8, .inl (fun _ => 0))), (q3, .inl (G.1, 8, .inl (fun _ => 0)))] := hD
  refine W.widen (k := 3) (n := 24) (Nat.le_of_ble_eq_true rfl) (Nat.le_of_ble_eq_true rfl) ?_
  refine va_putF hx hb hts inlX6 tyX6 tyX6_ok nmX6 hown hK.1 hP hD hS 0 rfl rfl 2 (by decide) (hts _ wm_3_17) (fun _ h => h) rfl hin rfl rfl rfl rfl (Nat.le_of_ble_eq_true rfl) dX6_init_25 (fun H locs hP hD hS => ?_)
  have hP : va_P D vwCl [(a, .inr (6, [.ref q1, .ref q2, .ref q3, .null, .null, .null, .null, .null, .null, .int 0, .int 0, .int 0, .long 0])), (q1, .inl (G.1, 8, .inl (fun _ => 0))), (q2, .inl (G.1, 8, .inl (fun _ => 0))), (q3, .inl (G.1, 8, .inl (fun _ => 0)))] H := hP
  have hD : va_D A [(a, .inr (6, [.ref q1, .ref q2, .ref q3, .null, .null, .null, .null, .null, .null, .int 0, .int 0, .int 0, .long 0])), (q1, .inl (G.1, 8, .inl (fun _ => 0))), (q2, .inl (G.1, 8, .inl (fun _ => 0))), (q3, .inl (G.1, 8, .inl (fun _ => 0)))] := hD
  refine lv_aload_n hx hb dX6_init_28 rfl (lv_at hl 0 rfl) ?_
  refine lv_bipush (v := 8) hx hb dX6_init_29 (by decide) ?_
  refine va_newa (atype := .int) (n := 8) (N' := 8) (a0 := (8, .inl (fun _ => 0))) hx hb (hts _ wm_3_8) rfl hK.1 hP hD hS hA (fun _ => rfl) (by decide) (by decide) (Nat.le_of_ble_eq_true rfl) (Nat.le_of_ble_eq_true rfl) (Nat.le_of_ble_eq_true rfl) dX6_init_31 (fun q4 cA H hK2 hP hD hS => ?_)
  obtain rfl := cls_I hK hK2
  clear hK2
  have hP : va_P D vwCl [(a, .inr (6, [.ref q1, .ref q2, .ref q3, .null, .null, .null, .null, .null, .null, .int 0, .int 0, .int 0, .long 0])), (q1, .inl (G.1, 8, .inl (fun _ => 0))), (q2, .inl (G.1, 8, .inl (fun _ => 0))), (q3, .inl (G.1, 8, .inl (fun _ => 0))), (q4, .inl (G.1, 8, .inl (fun _ => 0)))] H := hP
  have hD : va_D A [(a, .inr (6, [.ref q1, .ref q2, .ref q3, .null, .null, .null, .null, .null, .null, .int 0, .int 0, .int 0, .long 0])), (q1, .inl (G.1, 8, .inl (fun _ => 0))), (q2, .inl (G.1, 8, .inl (fun _ => 0))), (q3, .inl (G.1, 8, .inl (fun _ => 0))), (q4, .inl (G.1, 8, .inl (fun _ => 0)))] := hD
  refine W.widen (k := 4) (n := 32) (Nat.le_of_ble_eq_true rfl) (Nat.le_of_ble_eq_true rfl) ?_
  refine va_putF hx hb hts inlX6 tyX6 tyX6_ok nmX6 hown hK.1 hP hD hS 0 rfl rfl 3 (by decide) (hts _ wm_3_18) (fun _ h => h) rfl hin rfl rfl rfl rfl (Nat.le_of_ble_eq_true rfl) dX6_init_33 (fun H locs hP hD hS => ?_)
  have hP : va_P D vwCl [(a, .inr (6, [.ref q1, .ref q2, .ref q3, .ref q4, .null, .null, .null, .null, .null, .int 0, .int 0, .int 0, .long 0])), (q1, .inl (G.1, 8, .inl (fun _ => 0))), (q2, .inl (G.1, 8, .inl (fun _ => 0))), (q3, .inl (G.1, 8, .inl (fun _ => 0))), (q4, .inl (G.1, 8, .inl (fun _ => 0)))] H := hP
  have hD : va_D A [(a, .inr (6, [.ref q1, .ref q2, .ref q3, .ref q4, .null, .null, .null, .null, .null, .int 0, .int 0, .int 0, .long 0])), (q1, .inl (G.1, 8, .inl (fun _ => 0))), (q2, .inl (G.1, 8, .inl (fun _ => 0))), (q3, .inl (G.1, 8, .inl (fun _ => 0))), (q4, .inl (G.1, 8, .inl (fun _ => 0)))] := hD
  refine lv_aload_n hx hb dX6_init_36 rfl (lv_at hl 0 rfl) ?_
  refine lv_bipush (v := 8) hx hb dX6_init_37 (by decide) ?_
  refine va_newa (atype := .int) (n := 8) (N' := 8) (a0 := (8, .inl (fun _ => 0))) hx hb (hts _ wm_3_8) rfl hK.1 hP hD hS hA (fun _ => rfl) (by decide) (by decide) (Nat.le_of_ble_eq_true rfl) (Nat.le_of_ble_eq_true rfl) (Nat.le_of_ble_eq_true rfl) dX6_init_39 (fun q5 cA H hK2 hP hD hS => ?_)
  obtain rfl := cls_I hK hK2
  clear hK2
  have hP : va_P D vwCl [(a, .inr (6, [.ref q1, .ref q2, .ref q3, .ref q4, .null, .null, .null, .null, .null, .int 0, .int 0, .int 0, .long 0])), (q1, .inl (G.1, 8, .inl (fun _ => 0))), (q2, .inl (G.1, 8, .inl (fun _ => 0))), (q3, .inl (G.1, 8, .inl (fun _ => 0))), (q4, .inl (G.1, 8, .inl (fun _ => 0))), (q5, .inl (G.1, 8, .inl (fun _ => 0)))] H := hP
  have hD : va_D A [(a, .inr (6, [.ref q1, .ref q2, .ref q3, .ref q4, .null, .null, .null, .null, .null, .int 0, .int 0, .int 0, .long 0])), (q1, .inl (G.1, 8, .inl (fun _ => 0))), (q2, .inl (G.1, 8, .inl (fun _ => 0))), (q3, .inl (G.1, 8, .inl (fun _ => 0))), (q4, .inl (G.1, 8, .inl (fun _ => 0))), (q5, .inl (G.1, 8, .inl (fun _ => 0)))] := hD
  refine W.widen (k := 5) (n := 40) (Nat.le_of_ble_eq_true rfl) (Nat.le_of_ble_eq_true rfl) ?_
  refine va_putF hx hb hts inlX6 tyX6 tyX6_ok nmX6 hown hK.1 hP hD hS 0 rfl rfl 4 (by decide) (hts _ wm_3_19) (fun _ h => h) rfl hin rfl rfl rfl rfl (Nat.le_of_ble_eq_true rfl) dX6_init_41 (fun H locs hP hD hS => ?_)
  have hP : va_P D vwCl [(a, .inr (6, [.ref q1, .ref q2, .ref q3, .ref q4, .ref q5, .null, .null, .null, .null, .int 0, .int 0, .int 0, .long 0])), (q1, .inl (G.1, 8, .inl (fun _ => 0))), (q2, .inl (G.1, 8, .inl (fun _ => 0))), (q3, .inl (G.1, 8, .inl (fun _ => 0))), (q4, .inl (G.1, 8, .inl (fun _ => 0))), (q5, .inl (G.1, 8, .inl (fun _ => 0)))] H := hP
  have hD : va_D A [(a, .inr (6, [.ref q1, .ref q2, .ref q3, .ref q4, .ref q5, .null, .null, .null, .null, .int 0, .int 0, .int 0, .long 0])), (q1, .inl (G.1, 8, .inl (fun _ => 0))), (q2, .inl (G.1, 8, .inl (fun _ => 0))), (q3, .inl (G.1, 8, .inl (fun _ => 0))), (q4, .inl (G.1, 8, .inl (fun _ => 0))), (q5, .inl (G.1, 8, .inl (fun _ => 0)))] := hD
  refine lv_aload_n hx hb dX6_init_44 rfl (lv_at hl 0 rfl) ?_
  refine lv_bipush (v := 8) hx hb dX6_init_45 (by decide) ?_
  refine va_newa (atype := .int) (n := 8) (N' := 8) (a0 := (8, .inl (fun _ => 0))) hx hb (hts _ wm_3_8) rfl hK.1 hP hD hS hA (fun _ => rfl) (by decide) (by decide) (Nat.le_of_ble_eq_true rfl) (Nat.le_of_ble_eq_true rfl) (Nat.le_of_ble_eq_true rfl) dX6_init_47 (fun q6 cA H hK2 hP hD hS => ?_)
  obtain rfl := cls_I hK hK2
  clear hK2
  have hP : va_P D vwCl [(a, .inr (6, [.ref q1, .ref q2, .ref q3, .ref q4, .ref q5, .null, .null, .null, .null, .int 0, .int 0, .int 0, .long 0])), (q1, .inl (G.1, 8, .inl (fun _ => 0))), (q2, .inl (G.1, 8, .inl (fun _ => 0))), (q3, .inl (G.1, 8, .inl (fun _ => 0))), (q4, .inl (G.1, 8, .inl (fun _ => 0))), (q5, .inl (G.1, 8, .inl (fun _ => 0))), (q6, .inl (G.1, 8, .inl (fun _ => 0)))] H := hP
  have hD : va_D A [(a, .inr (6, [.ref q1, .ref q2, .ref q3, .ref q4, .ref q5, .null, .null, .null, .null, .int 0, .int 0, .int 0, .long 0])), (q1, .inl (G.1, 8, .inl (fun _ => 0))), (q2, .inl (G.1, 8, .inl (fun _ => 0))), (q3, .inl (G.1, 8, .inl (fun _ => 0))), (q4, .inl (G.1, 8, .inl (fun _ => 0))), (q5, .inl (G.1, 8, .inl (fun _ => 0))), (q6, .inl (G.1, 8, .inl (fun _ => 0)))] := hD
  refine W.widen (k := 6) (n := 48) (Nat.le_of_ble_eq_true rfl) (Nat.le_of_ble_eq_true rfl) ?_
  refine va_putF hx hb hts inlX6 tyX6 tyX6_ok nmX6 hown hK.1 hP hD hS 0 rfl rfl 5 (by decide) (hts _ wm_3_20) (fun _ h => h) rfl hin rfl rfl rfl rfl (Nat.le_of_ble_eq_true rfl) dX6_init_49 (fun H locs hP hD hS => ?_)
  have hP : va_P D vwCl [(a, .inr (6, [.ref q1, .ref q2, .ref q3, .ref q4, .ref q5, .ref q6, .null, .null, .null, .int 0, .int 0, .int 0, .long 0])), (q1, .inl (G.1, 8, .inl (fun _ => 0))), (q2, .inl (G.1, 8, .inl (fun _ => 0))), (q3, .inl (G.1, 8, .inl (fun _ => 0))), (q4, .inl (G.1, 8, .inl (fun _ => 0))), (q5, .inl (G.1, 8, .inl (fun _ => 0))), (q6, .inl (G.1, 8, .inl (fun _ => 0)))] H := hP
  have hD : va_D A [(a, .inr (6, [.ref q1, .ref q2, .ref q3, .ref q4, .ref q5, .ref q6, .null, .null, .null, .int 0, .int 0, .int 0, .long 0])), (q1, .inl (G.1, 8, .inl (fun _ => 0))), (q2, .inl (G.1, 8, .inl (fun _ => 0))), (q3, .inl (G.1, 8, .inl (fun _ => 0))), (q4, .inl (G.1, 8, .inl (fun _ => 0))), (q5, .inl (G.1, 8, .inl (fun _ => 0))), (q6, .inl (G.1, 8, .inl (fun _ => 0)))] := hD
  refine lv_aload_n hx hb dX6_init_52 rfl (lv_at hl 0 rfl) ?_
  refine lv_bipush (v := 8) hx hb dX6_init_53 (by decide) ?_
  refine va_newa (atype := .int) (n := 8) (N' := 8) (a0 := (8, .inl (fun _ => 0))) hx hb (hts _ wm_3_8) rfl hK.1 hP hD hS hA (fun _ => rfl) (by decide) (by decide) (Nat.le_of_ble_eq_true rfl) (Nat.le_of_ble_eq_true rfl) (Nat.le_of_ble_eq_true rfl) dX6_init_55 (fun q7 cA H hK2 hP hD hS => ?_)
  obtain rfl := cls_I hK hK2
  clear hK2
  have hP : va_P D vwCl [(a, .inr (6, [.ref q1, .ref q2, .ref q3, .ref q4, .ref q5, .ref q6, .null, .null, .null, .int 0, .int 0, .int 0, .long 0])), (q1, .inl (G.1, 8, .inl (fun _ => 0))), (q2, .inl (G.1, 8, .inl (fun _ => 0))), (q3, .inl (G.1, 8, .inl (fun _ => 0))), (q4, .inl (G.1, 8, .inl (fun _ => 0))), (q5, .inl (G.1, 8, .inl (fun _ => 0))), (q6, .inl (G.1, 8, .inl (fun _ => 0))), (q7, .inl (G.1, 8, .inl (fun _ => 0)))] H := hP
  have hD : va_D A [(a, .inr (6, [.ref q1, .ref q2, .ref q3, .ref q4, .ref q5, .ref q6, .null, .null, .null, .int 0, .int 0, .int 0, .long 0])), (q1, .inl (G.1, 8, .inl (fun _ => 0))), (q2, .inl (G.1, 8, .inl (fun _ => 0))), (q3, .inl (G.1, 8, .inl (fun _ => 0))), (q4, .inl (G.1, 8, .inl (fun _ => 0))), (q5, .inl (G.1, 8, .inl (fun _ => 0))), (q6, .inl (G.1, 8, .inl (fun _ => 0))), (q7, .inl (G.1, 8, .inl (fun _ => 0)))] := hD
  refine W.widen (k := 7) (n := 56) (Nat.le_of_ble_eq_true rfl) (Nat.le_of_ble_eq_true rfl) ?_
  refine va_putF hx hb hts inlX6 tyX6 tyX6_ok nmX6 hown hK.1 hP hD hS 0 rfl rfl 6 (by decide) (hts _ wm_3_21) (fun _ h => h) rfl hin rfl rfl rfl rfl (Nat.le_of_ble_eq_true rfl) dX6_init_57 (fun H locs hP hD hS => ?_)
  have hP : va_P D vwCl [(a, .inr (6, [.ref q1, .ref q2, .ref q3, .ref q4, .ref q5, .ref q6, .ref q7, .null, .null, .int 0, .int 0, .int 0, .long 0])), (q1, .inl (G.1, 8, .inl (fun _ => 0))), (q2, .inl (G.1, 8, .inl (fun _ => 0))), (q3, .inl (G.1, 8, .inl (fun _ => 0))), (q4, .inl (G.1, 8, .inl (fun _ => 0))), (q5, .inl (G.1, 8, .inl (fun _ => 0))), (q6, .inl (G.1, 8, .inl (fun _ => 0))), (q7, .inl (G.1, 8, .inl (fun _ => 0)))] H := hP
  have hD : va_D A [(a, .inr (6, [.ref q1, .ref q2, .ref q3, .ref q4, .ref q5, .ref q6, .ref q7, .null, .null, .int 0, .int 0, .int 0, .long 0])), (q1, .inl (G.1, 8, .inl (fun _ => 0))), (q2, .inl (G.1, 8, .inl (fun _ => 0))), (q3, .inl (G.1, 8, .inl (fun _ => 0))), (q4, .inl (G.1, 8, .inl (fun _ => 0))), (q5, .inl (G.1, 8, .inl (fun _ => 0))), (q6, .inl (G.1, 8, .inl (fun _ => 0))), (q7, .inl (G.1, 8, .inl (fun _ => 0)))] := hD
  refine lv_aload_n hx hb dX6_init_60 rfl (lv_at hl 0 rfl) ?_
  refine lv_bipush (v := 8) hx hb dX6_init_61 (by decide) ?_
  refine va_newa (atype := .int) (n := 8) (N' := 8) (a0 := (8, .inl (fun _ => 0))) hx hb (hts _ wm_3_8) rfl hK.1 hP hD hS hA (fun _ => rfl) (by decide) (by decide) (Nat.le_of_ble_eq_true rfl) (Nat.le_of_ble_eq_true rfl) (Nat.le_of_ble_eq_true rfl) dX6_init_63 (fun q8 cA H hK2 hP hD hS => ?_)
  obtain rfl := cls_I hK hK2
  clear hK2
  have hP : va_P D vwCl [(a, .inr (6, [.ref q1, .ref q2, .ref q3, .ref q4, .ref q5, .ref q6, .ref q7, .null, .null, .int 0, .int 0, .int 0, .long 0])), (q1, .inl (G.1, 8, .inl (fun _ => 0))), (q2, .inl (G.1, 8, .inl (fun _ => 0))), (q3, .inl (G.1, 8, .inl (fun _ => 0))), (q4, .inl (G.1, 8, .inl (fun _ => 0))), (q5, .inl (G.1, 8, .inl (fun _ => 0))), (q6, .inl (G.1, 8, .inl (fun _ => 0))), (q7, .inl (G.1, 8, .inl (fun _ => 0))), (q8, .inl (G.1, 8, .inl (fun _ => 0)))] H := hP
  have hD : va_D A [(a, .inr (6, [.ref q1, .ref q2, .ref q3, .ref q4, .ref q5, .ref q6, .ref q7, .null, .null, .int 0, .int 0, .int 0, .long 0])), (q1, .inl (G.1, 8, .inl (fun _ => 0))), (q2, .inl (G.1, 8, .inl (fun _ => 0))), (q3, .inl (G.1, 8, .inl (fun _ => 0))), (q4, .inl (G.1, 8, .inl (fun _ => 0))), (q5, .inl (G.1, 8, .inl (fun _ => 0))), (q6, .inl (G.1, 8, .inl (fun _ => 0))), (q7, .inl (G.1, 8, .inl (fun _ => 0))), (q8, .inl (G.1, 8, .inl (fun _ => 0)))] := hD
  refine W.widen (k := 8) (n := 64) (Nat.le_of_ble_eq_true rfl) (Nat.le_of_ble_eq_true rfl) ?_
  refine va_putF hx hb hts inlX6 tyX6 tyX6_ok nmX6 hown hK.1 hP hD hS 0 rfl rfl 7 (by decide) (hts _ wm_3_22) (fun _ h => h) rfl hin rfl rfl rfl rfl (Nat.le_of_ble_eq_true rfl) dX6_init_65 (fun H locs hP hD hS => ?_)
  have hP : va_P D vwCl [(a, .inr (6, [.ref q1, .ref q2, .ref q3, .ref q4, .ref q5, .ref q6, .ref q7, .ref q8, .null, .int 0, .int 0, .int 0, .long 0])), (q1, .inl (G.1, 8, .inl (fun _ => 0))), (q2, .inl (G.1, 8, .inl (fun _ => 0))), (q3, .inl (G.1, 8, .inl (fun _ => 0))), (q4, .inl (G.1, 8, .inl (fun _ => 0))), (q5, .inl (G.1, 8, .inl (fun _ => 0))), (q6, .inl (G.1, 8, .inl (fun _ => 0))), (q7, .inl (G.1, 8, .inl (fun _ => 0))), (q8, .inl (G.1, 8, .inl (fun _ => 0)))] H := hP
  have hD : va_D A [(a, .inr (6, [.ref q1, .ref q2, .ref q3, .ref q4, .ref q5, .ref q6, .ref q7, .ref q8, .null, .int 0, .int 0, .int 0, .long 0])), (q1, .inl (G.1, 8, .inl (fun _ => 0))), (q2, .inl (G.1, 8, .inl (fun _ => 0))), (q3, .inl (G.1, 8, .inl (fun _ => 0))), (q4, .inl (G.1, 8, .inl (fun _ => 0))), (q5, .inl (G.1, 8, .inl (fun _ => 0))), (q6, .inl (G.1, 8, .inl (fun _ => 0))), (q7, .inl (G.1, 8, .inl (fun _ => 0))), (q8, .inl (G.1, 8, .inl (fun _ => 0)))] := hD
  refine lv_aload_n hx hb dX6_init_68 rfl (lv_at hl 0 rfl) ?_
  refine lv_bipush (v := 8) hx hb dX6_init_69 (by decide) ?_
  refine va_newa (atype := .int) (n := 8) (N' := 8) (a0 := (8, .inl (fun _ => 0))) hx hb (hts _ wm_3_8) rfl hK.1 hP hD hS hA (fun _ => rfl) (by decide) (by decide) (Nat.le_of_ble_eq_true rfl) (Nat.le_of_ble_eq_true rfl) (Nat.le_of_ble_eq_true rfl) dX6_init_71 (fun q9 cA H hK2 hP hD hS => ?_)
  obtain rfl := cls_I hK hK2
  clear hK2
  have hP : va_P D vwCl [(a, .inr (6, [.ref q1, .ref q2, .ref q3, .ref q4, .ref q5, .ref q6, .ref q7, .ref q8, .null, .int 0, .int 0, .int 0, .long 0])), (q1, .inl (G.1, 8, .inl (fun _ => 0))), (q2, .inl (G.1, 8, .inl (fun _ => 0))), (q3, .inl (G.1, 8, .inl (fun _ => 0))), (q4, .inl (G.1, 8, .inl (fun _ => 0))), (q5, .inl (G.1, 8, .inl (fun _ => 0))), (q6, .inl (G.1, 8, .inl (fun _ => 0))), (q7, .inl (G.1, 8, .inl (fun _ => 0))), (q8, .inl (G.1, 8, .inl (fun _ => 0))), (q9, .inl (G.1, 8, .inl (fun _ => 0)))] H := hP
  have hD : va_D A [(a, .inr (6, [.ref q1, .ref q2, .ref q3, .ref q4, .ref q5, .ref q6, .ref q7, .ref q8, .null, .int 0, .int 0, .int 0, .long 0])), (q1, .inl (G.1, 8, .inl (fun _ => 0))), (q2, .inl (G.1, 8, .inl (fun _ => 0))), (q3, .inl (G.1, 8, .inl (fun _ => 0))), (q4, .inl (G.1, 8, .inl (fun _ => 0))), (q5, .inl (G.1, 8, .inl (fun _ => 0))), (q6, .inl (G.1, 8, .inl (fun _ => 0))), (q7, .inl (G.1, 8, .inl (fun _ => 0))), (q8, .inl (G.1, 8, .inl (fun _ => 0))), (q9, .inl (G.1, 8, .inl (fun _ => 0)))] := hD
  refine W.widen (k := 9) (n := 72) (Nat.le_of_ble_eq_true rfl) (Nat.le_of_ble_eq_true rfl) ?_
  refine va_putF hx hb hts inlX6 tyX6 tyX6_ok nmX6 hown hK.1 hP hD hS 0 rfl rfl 8 (by decide) (hts _ wm_3_23) (fun _ h => h) rfl hin rfl rfl rfl rfl (Nat.le_of_ble_eq_true rfl) dX6_init_73 (fun H locs hP hD hS => ?_)
  have hP : va_P D vwCl [(a, .inr (6, [.ref q1, .ref q2, .ref q3, .ref q4, .ref q5, .ref q6, .ref q7, .ref q8, .ref q9, .int 0, .int 0, .int 0, .long 0])), (q1, .inl (G.1, 8, .inl (fun _ => 0))), (q2, .inl (G.1, 8, .inl (fun _ => 0))), (q3, .inl (G.1, 8, .inl (fun _ => 0))), (q4, .inl (G.1, 8, .inl (fun _ => 0))), (q5, .inl (G.1, 8, .inl (fun _ => 0))), (q6, .inl (G.1, 8, .inl (fun _ => 0))), (q7, .inl (G.1, 8, .inl (fun _ => 0))), (q8, .inl (G.1, 8, .inl (fun _ => 0))), (q9, .inl (G.1, 8, .inl (fun _ => 0)))] H := hP
  have hD : va_D A [(a, .inr (6, [.ref q1, .ref q2, .ref q3, .ref q4, .ref q5, .ref q6, .ref q7, .ref q8, .ref q9, .int 0, .int 0, .int 0, .long 0])), (q1, .inl (G.1, 8, .inl (fun _ => 0))), (q2, .inl (G.1, 8, .inl (fun _ => 0))), (q3, .inl (G.1, 8, .inl (fun _ => 0))), (q4, .inl (G.1, 8, .inl (fun _ => 0))), (q5, .inl (G.1, 8, .inl (fun _ => 0))), (q6, .inl (G.1, 8, .inl (fun _ => 0))), (q7, .inl (G.1, 8, .inl (fun _ => 0))), (q8, .inl (G.1, 8, .inl (fun _ => 0))), (q9, .inl (G.1, 8, .inl (fun _ => 0)))] := hD
  have hPf : va_P D vwCl ([(a, .inr (6, [.ref q1, .ref q2, .ref q3, .ref q4, .ref q5, .ref q6, .ref q7, .ref q8, .ref q9, .int 0, .int 0, .int 0, .long 0])), (q1, .inl (G.1, 8, .inl (fun _ => 0))), (q2, .inl (G.1, 8, .inl (fun _ => 0))), (q3, .inl (G.1, 8, .inl (fun _ => 0))), (q4, .inl (G.1, 8, .inl (fun _ => 0))), (q5, .inl (G.1, 8, .inl (fun _ => 0))), (q6, .inl (G.1, 8, .inl (fun _ => 0))), (q7, .inl (G.1, 8, .inl (fun _ => 0))), (q8, .inl (G.1, 8, .inl (fun _ => 0))), (q9, .inl (G.1, 8, .inl (fun _ => 0)))]) H := hP.sub [0, 1, 2, 3, 4, 5, 6, 7, 8, 9] rfl
  have hDf : va_D A ([(a, .inr (6, [.ref q1, .ref q2, .ref q3, .ref q4, .ref q5, .ref q6, .ref q7, .ref q8, .ref q9, .int 0, .int 0, .int 0, .long 0])), (q1, .inl (G.1, 8, .inl (fun _ => 0))), (q2, .inl (G.1, 8, .inl (fun _ => 0))), (q3, .inl (G.1, 8, .inl (fun _ => 0))), (q4, .inl (G.1, 8, .inl (fun _ => 0))), (q5, .inl (G.1, 8, .inl (fun _ => 0))), (q6, .inl (G.1, 8, .inl (fun _ => 0))), (q7, .inl (G.1, 8, .inl (fun _ => 0))), (q8, .inl (G.1, 8, .inl (fun _ => 0))), (q9, .inl (G.1, 8, .inl (fun _ => 0)))]) := hD.sub [0, 1, 2, 3, 4, 5, 6, 7, 8, 9] (by decide) rfl
  exact W.vret hx hb hr (fun t ht _ => ⟨⟨fun i => [a, q1, q2, q3, q4, q5, q6, q7, q8, q9].getD i 0, rfl, trivial, by rw [ht]; exact hPf, hDf⟩, hS.F ht⟩) hS.2.2 dX6_init_76 hlk
def nX9 (G : G3) (a : Nat) (x : Nat → Nat) : va_W := [(a, .inr (9, [.ref (x 1), .ref (x 2), .int 0, .int 0, .int 0])), ((x 1), .inl (G.1, 120, .inl (fun _ => 0))), ((x 2), .inl (G.1, 120, .inl (fun _ => 0)))]
set_option maxHeartbeats 40000000 in
set_option maxRecDepth 100000 in
theorem kX9_init (l : Launch) (D : va_G) (G : G3) (a : Nat) {sz : Nat} : Met l yX9_init (wsU yX9_init cX9_init 1 none) ({ frames := 1, cells := 2, slots := 240, locals := 50 } : Room) (va_Pc [.ref a] (Cp D G sz [(a, .inr (9, [.null, .null, .int 0, .int 0, .int 0]))])) (va_Qv (fun _ : Nat → Nat => True) (fun x t => va_P D vwCl (nX9 G a x) t.heap ∧ va_D (va_A [(a, .inr (9, [.null, .null, .int 0, .int 0, .int 0]))] sz) (nX9 G a x)) (va_A [(a, .inr (9, [.null, .null, .int 0, .int 0, .int 0]))] sz)) 2 240 (va_A [(a, .inr (9, [.null, .null, .int 0, .int 0, .int 0]))] sz) := by
  refine Met.ofW (cc := cX9_init) (maxL := 1) (ret := none) (by decide) rfl ?_
  intro p e s m args below meth c s₁ B hml hv
  obtain ⟨rfl, hsz, hP, hK, hKN⟩ := hv
  have hts0 := atoms_spec (ws := wsU yX9_init cX9_init 1 none) B.pre
  have hts : ∀ w ∈ wsL_law, w.before _ s = true := fun w h => hts0 w (List.mem_cons_of_mem _ h)
  have hx := B.exec
  have hb := B.bytes
  have hr := B.returns
  have hlk := B.notSynchronized
  have hown : s.vm.findClass RX9 = some m.cls := findClass_of_methodNamed B.named
  have hin : meth.name = "<init>" := (name_of_methodNamed B.named B.method).1
  subst hsz
  have hD := one_D a (.inr (9, [.null, .null, .int 0, .int 0, .int 0])) s.heap.size
  generalize hAe : va_A [(a, .inr (9, [.null, .null, .int 0, .int 0, .int 0]))] s.heap.size = A at hD ⊢
  have hA : ∀ q : Nat, s.heap.size ≤ q → A q := fun q h => by rw [← hAe]; exact Or.inr h
  have hS : va_S A s.heap s.heap [] := va_S.rf
  have hl := lv_entry ([.ref a]) (n := 1) (Nat.le_of_ble_eq_true rfl)
  rw [lg_entry_eq]
  generalize (lg_sl ([.ref a]) ++ List.replicate (1 - (lg_sl ([.ref a])).length) Slot.unset).toArray = ls at hl ⊢
  have hl : lv_has ls 1 [(0, .ref a)] := hl
  have hP : va_P D vwCl [(a, .inr (9, [.null, .null, .int 0, .int 0, .int 0]))] s.heap := hP
  refine lv_aload_n hx hb dX9_init_0 rfl (lv_at hl 0 rfl) ?_
  refine W.objInit hx hb hown (hts _ wm_4_8) (hts _ wm_1_11) (hts _ wm_1_12) rfl (by rw [hml]; exact hl.1) rfl dX9_init_1 (Nat.le_of_ble_eq_true rfl) (Nat.le_of_ble_eq_true rfl) ?_
  refine W.eq (g2 := F0 m 4 ls []) rfl ?_
  refine lv_aload_n hx hb dX9_init_4 rfl (lv_at hl 0 rfl) ?_
  refine lv_bipush (v := 120) hx hb dX9_init_5 (by decide) ?_
  refine va_newa (atype := .int) (n := 120) (N' := 120) (a0 := (120, .inl (fun _ => 0))) hx hb (hts _ wm_3_8) rfl hK.1 hP hD hS hA (fun _ => rfl) (by decide) (by decide) (Nat.le_of_ble_eq_true rfl) (Nat.le_of_ble_eq_true rfl) (Nat.le_of_ble_eq_true rfl) dX9_init_7 (fun q1 cA H hK2 hP hD hS => ?_)
  obtain rfl := cls_I hK hK2
  clear hK2
  have hP : va_P D vwCl [(a, .inr (9, [.null, .null, .int 0, .int 0, .int 0])), (q1, .inl (G.1, 120, .inl (fun _ => 0)))] H := hP
  have hD : va_D A [(a, .inr (9, [.null, .null, .int 0, .int 0, .int 0])), (q1, .inl (G.1, 120, .inl (fun _ => 0)))] := hD
  refine W.widen (k := 1) (n := 120) (Nat.le_of_ble_eq_true rfl) (Nat.le_of_ble_eq_true rfl) ?_
  refine va_putF hx hb hts inlX9 tyX9 tyX9_ok nmX9 hown hK.1 hP hD hS 0 rfl rfl 0 (by decide) (hts _ wm_4_9) (fun _ h => h) rfl hin rfl rfl rfl rfl (Nat.le_of_ble_eq_true rfl) dX9_init_9 (fun H locs hP hD hS => ?_)
  have hP : va_P D vwCl [(a, .inr (9, [.ref q1, .null, .int 0, .int 0, .int 0])), (q1, .inl (G.1, 120, .inl (fun _ => 0)))] H := hP
  have hD : va_D A [(a, .inr (9, [.ref q1, .null, .int 0, .int 0, .int 0])), (q1, .inl (G.1, 120, .inl (fun _ => 0)))] := hD
  refine lv_aload_n hx hb dX9_init_12 rfl (lv_at hl 0 rfl) ?_
  refine lv_bipush (v := 120) hx hb dX9_init_13 (by decide) ?_
  refine va_newa (atype := .int) (n := 120) (N' := 120) (a0 := (120, .inl (fun _ => 0))) hx hb (hts _ wm_3_8) rfl hK.1 hP hD hS hA (fun _ => rfl) (by decide) (by decide) (Nat.le_of_ble_eq_true rfl) (Nat.le_of_ble_eq_true rfl) (Nat.le_of_ble_eq_true rfl) dX9_init_15 (fun q2 cA H hK2 hP hD hS => ?_)
  obtain rfl := cls_I hK hK2
  clear hK2
  have hP : va_P D vwCl [(a, .inr (9, [.ref q1, .null, .int 0, .int 0, .int 0])), (q1, .inl (G.1, 120, .inl (fun _ => 0))), (q2, .inl (G.1, 120, .inl (fun _ => 0)))] H := hP
  have hD : va_D A [(a, .inr (9, [.ref q1, .null, .int 0, .int 0, .int 0])), (q1, .inl (G.1, 120, .inl (fun _ => 0))), (q2, .inl (G.1, 120, .inl (fun _ => 0)))] := hD
  refine W.widen (k := 2) (n := 240) (Nat.le_of_ble_eq_true rfl) (Nat.le_of_ble_eq_true rfl) ?_
  refine va_putF hx hb hts inlX9 tyX9 tyX9_ok nmX9 hown hK.1 hP hD hS 0 rfl rfl 1 (by decide) (hts _ wm_4_10) (fun _ h => h) rfl hin rfl rfl rfl rfl (Nat.le_of_ble_eq_true rfl) dX9_init_17 (fun H locs hP hD hS => ?_)
  have hP : va_P D vwCl [(a, .inr (9, [.ref q1, .ref q2, .int 0, .int 0, .int 0])), (q1, .inl (G.1, 120, .inl (fun _ => 0))), (q2, .inl (G.1, 120, .inl (fun _ => 0)))] H := hP
  have hD : va_D A [(a, .inr (9, [.ref q1, .ref q2, .int 0, .int 0, .int 0])), (q1, .inl (G.1, 120, .inl (fun _ => 0))), (q2, .inl (G.1, 120, .inl (fun _ => 0)))] := hD
  have hPf : va_P D vwCl ([(a, .inr (9, [.ref q1, .ref q2, .int 0, .int 0, .int 0])), (q1, .inl (G.1, 120, .inl (fun _ => 0))), (q2, .inl (G.1, 120, .inl (fun _ => 0)))]) H := hP.sub [0, 1, 2] rfl
  have hDf : va_D A ([(a, .inr (9, [.ref q1, .ref q2, .int 0, .int 0, .int 0])), (q1, .inl (G.1, 120, .inl (fun _ => 0))), (q2, .inl (G.1, 120, .inl (fun _ => 0)))]) := hD.sub [0, 1, 2] (by decide) rfl
  exact W.vret hx hb hr (fun t ht _ => ⟨⟨fun i => [a, q1, q2].getD i 0, rfl, trivial, by rw [ht]; exact hPf, hDf⟩, hS.F ht⟩) hS.2.2 dX9_init_20 hlk
def nX5 (G : G3) (a : Nat) (x : Nat → Nat) : va_W := [(a, .inr (5, [.ref (x 1), .ref (x 2)])), ((x 1), .inl (G.1, 320, .inl (fun _ => 0))), ((x 2), .inl (G.1, 320, .inl (fun _ => 0)))]
set_option maxHeartbeats 40000000 in
set_option maxRecDepth 100000 in
theorem kX5_init (l : Launch) (D : va_G) (G : G3) (a : Nat) {sz : Nat} : Met l yX5_init (wsU yX5_init cX5_init 1 none) ({ frames := 1, cells := 2, slots := 640, locals := 50 } : Room) (va_Pc [.ref a] (Cp D G sz [(a, .inr (5, [.null, .null]))])) (va_Qv (fun _ : Nat → Nat => True) (fun x t => va_P D vwCl (nX5 G a x) t.heap ∧ va_D (va_A [(a, .inr (5, [.null, .null]))] sz) (nX5 G a x)) (va_A [(a, .inr (5, [.null, .null]))] sz)) 2 640 (va_A [(a, .inr (5, [.null, .null]))] sz) := by
  refine Met.ofW (cc := cX5_init) (maxL := 1) (ret := none) (by decide) rfl ?_
  intro p e s m args below meth c s₁ B hml hv
  obtain ⟨rfl, hsz, hP, hK, hKN⟩ := hv
  have hts0 := atoms_spec (ws := wsU yX5_init cX5_init 1 none) B.pre
  have hts : ∀ w ∈ wsL_law, w.before _ s = true := fun w h => hts0 w (List.mem_cons_of_mem _ h)
  have hx := B.exec
  have hb := B.bytes
  have hr := B.returns
  have hlk := B.notSynchronized
  have hown : s.vm.findClass RX5 = some m.cls := findClass_of_methodNamed B.named
  have hin : meth.name = "<init>" := (name_of_methodNamed B.named B.method).1
  subst hsz
  have hD := one_D a (.inr (5, [.null, .null])) s.heap.size
  generalize hAe : va_A [(a, .inr (5, [.null, .null]))] s.heap.size = A at hD ⊢
  have hA : ∀ q : Nat, s.heap.size ≤ q → A q := fun q h => by rw [← hAe]; exact Or.inr h
  have hS : va_S A s.heap s.heap [] := va_S.rf
  have hl := lv_entry ([.ref a]) (n := 1) (Nat.le_of_ble_eq_true rfl)
  rw [lg_entry_eq]
  generalize (lg_sl ([.ref a]) ++ List.replicate (1 - (lg_sl ([.ref a])).length) Slot.unset).toArray = ls at hl ⊢
  have hl : lv_has ls 1 [(0, .ref a)] := hl
  have hP : va_P D vwCl [(a, .inr (5, [.null, .null]))] s.heap := hP
  refine lv_aload_n hx hb dX5_init_0 rfl (lv_at hl 0 rfl) ?_
  refine W.objInit hx hb hown (hts _ wm_4_18) (hts _ wm_1_11) (hts _ wm_1_12) rfl (by rw [hml]; exact hl.1) rfl dX5_init_1 (Nat.le_of_ble_eq_true rfl) (Nat.le_of_ble_eq_true rfl) ?_
  refine W.eq (g2 := F0 m 4 ls []) rfl ?_
  refine lv_aload_n hx hb dX5_init_4 rfl (lv_at hl 0 rfl) ?_
  refine lv_sipush (v := 320) hx hb dX5_init_5 (by decide) ?_
  refine va_newa (atype := .int) (n := 320) (N' := 320) (a0 := (320, .inl (fun _ => 0))) hx hb (hts _ wm_3_8) rfl hK.1 hP hD hS hA (fun _ => rfl) (by decide) (by decide) (Nat.le_of_ble_eq_true rfl) (Nat.le_of_ble_eq_true rfl) (Nat.le_of_ble_eq_true rfl) dX5_init_8 (fun q1 cA H hK2 hP hD hS => ?_)
  obtain rfl := cls_I hK hK2
  clear hK2
  have hP : va_P D vwCl [(a, .inr (5, [.null, .null])), (q1, .inl (G.1, 320, .inl (fun _ => 0)))] H := hP
  have hD : va_D A [(a, .inr (5, [.null, .null])), (q1, .inl (G.1, 320, .inl (fun _ => 0)))] := hD
  refine W.widen (k := 1) (n := 320) (Nat.le_of_ble_eq_true rfl) (Nat.le_of_ble_eq_true rfl) ?_
  refine va_putF hx hb hts inlX5 tyX5 tyX5_ok nmX5 hown hK.1 hP hD hS 0 rfl rfl 0 (by decide) (hts _ wm_4_19) (fun _ h => h) rfl hin rfl rfl rfl rfl (Nat.le_of_ble_eq_true rfl) dX5_init_10 (fun H locs hP hD hS => ?_)
  have hP : va_P D vwCl [(a, .inr (5, [.ref q1, .null])), (q1, .inl (G.1, 320, .inl (fun _ => 0)))] H := hP
  have hD : va_D A [(a, .inr (5, [.ref q1, .null])), (q1, .inl (G.1, 320, .inl (fun _ => 0)))] := hD
  refine lv_aload_n hx hb dX5_init_13 rfl (lv_at hl 0 rfl) ?_
  refine lv_sipush (v := 320) hx hb dX5_init_14 (by decide) ?_
  refine va_newa (atype := .int) (n := 320) (N' := 320) (a0 := (320, .inl (fun _ => 0))) hx hb (hts _ wm_3_8) rfl hK.1 hP hD hS hA (fun _ => rfl) (by decide) (by decide) (Nat.le_of_ble_eq_true rfl) (Nat.le_of_ble_eq_true rfl) (Nat.le_of_ble_eq_true rfl) dX5_init_17 (fun q2 cA H hK2 hP hD hS => ?_)
  obtain rfl := cls_I hK hK2
  clear hK2
  have hP : va_P D vwCl [(a, .inr (5, [.ref q1, .null])), (q1, .inl (G.1, 320, .inl (fun _ => 0))), (q2, .inl (G.1, 320, .inl (fun _ => 0)))] H := hP
  have hD : va_D A [(a, .inr (5, [.ref q1, .null])), (q1, .inl (G.1, 320, .inl (fun _ => 0))), (q2, .inl (G.1, 320, .inl (fun _ => 0)))] := hD
  refine W.widen (k := 2) (n := 640) (Nat.le_of_ble_eq_true rfl) (Nat.le_of_ble_eq_true rfl) ?_
  refine va_putF hx hb hts inlX5 tyX5 tyX5_ok nmX5 hown hK.1 hP hD hS 0 rfl rfl 1 (by decide) (hts _ wm_4_20) (fun _ h => h) rfl hin rfl rfl rfl rfl (Nat.le_of_ble_eq_true rfl) dX5_init_19 (fun H locs hP hD hS => ?_)
  have hP : va_P D vwCl [(a, .inr (5, [.ref q1, .ref q2])), (q1, .inl (G.1, 320, .inl (fun _ => 0))), (q2, .inl (G.1, 320, .inl (fun _ => 0)))] H := hP
  have hD : va_D A [(a, .inr (5, [.ref q1, .ref q2])), (q1, .inl (G.1, 320, .inl (fun _ => 0))), (q2, .inl (G.1, 320, .inl (fun _ => 0)))] := hD
  have hPf : va_P D vwCl ([(a, .inr (5, [.ref q1, .ref q2])), (q1, .inl (G.1, 320, .inl (fun _ => 0))), (q2, .inl (G.1, 320, .inl (fun _ => 0)))]) H := hP.sub [0, 1, 2] rfl
  have hDf : va_D A ([(a, .inr (5, [.ref q1, .ref q2])), (q1, .inl (G.1, 320, .inl (fun _ => 0))), (q2, .inl (G.1, 320, .inl (fun _ => 0)))]) := hD.sub [0, 1, 2] (by decide) rfl
  exact W.vret hx hb hr (fun t ht _ => ⟨⟨fun i => [a, q1, q2].getD i 0, rfl, trivial, by rw [ht]; exact hPf, hDf⟩, hS.F ht⟩) hS.2.2 dX5_init_22 hlk
def nX7 (G : G3) (a : Nat) (x : Nat → Nat) : va_W := [(a, .inr (7, [.ref (x 1), .ref (x 2), .ref (x 3), .int 0])), ((x 1), .inl (G.1, 1440, .inl (fun _ => 0))), ((x 2), .inl (G.1, 12, .inl (fun _ => 0))), ((x 3), .inl (G.2.1, 32, .inr (.inl (fun _ => 0))))]
set_option maxHeartbeats 40000000 in
set_option maxRecDepth 100000 in
theorem kX7_init (l : Launch) (D : va_G) (G : G3) (a : Nat) {sz : Nat} : Met l yX7_init (wsU yX7_init cX7_init 1 none) ({ frames := 1, cells := 3, slots := 1484, locals := 50 } : Room) (va_Pc [.ref a] (Cp D G sz [(a, .inr (7, [.null, .null, .null, .int 0]))])) (va_Qv (fun _ : Nat → Nat => True) (fun x t => va_P D vwCl (nX7 G a x) t.heap ∧ va_D (va_A [(a, .inr (7, [.null, .null, .null, .int 0]))] sz) (nX7 G a x)) (va_A [(a, .inr (7, [.null, .null, .null, .int 0]))] sz)) 3 1484 (va_A [(a, .inr (7, [.null, .null, .null, .int 0]))] sz) := by
  refine Met.ofW (cc := cX7_init) (maxL := 1) (ret := none) (by decide) rfl ?_
  intro p e s m args below meth c s₁ B hml hv
  obtain ⟨rfl, hsz, hP, hK, hKN⟩ := hv
  have hts0 := atoms_spec (ws := wsU yX7_init cX7_init 1 none) B.pre
  have hts : ∀ w ∈ wsL_law, w.before _ s = true := fun w h => hts0 w (List.mem_cons_of_mem _ h)
  have hx := B.exec
  have hb := B.bytes
  have hr := B.returns
  have hlk := B.notSynchronized
  have hown : s.vm.findClass RX7 = some m.cls := findClass_of_methodNamed B.named
  have hin : meth.name = "<init>" := (name_of_methodNamed B.named B.method).1
  subst hsz
  have hD := one_D a (.inr (7, [.null, .null, .null, .int 0])) s.heap.size
  generalize hAe : va_A [(a, .inr (7, [.null, .null, .null, .int 0]))] s.heap.size = A at hD ⊢
  have hA : ∀ q : Nat, s.heap.size ≤ q → A q := fun q h => by rw [← hAe]; exact Or.inr h
  have hS : va_S A s.heap s.heap [] := va_S.rf
  have hl := lv_entry ([.ref a]) (n := 1) (Nat.le_of_ble_eq_true rfl)
  rw [lg_entry_eq]
  generalize (lg_sl ([.ref a]) ++ List.replicate (1 - (lg_sl ([.ref a])).length) Slot.unset).toArray = ls at hl ⊢
  have hl : lv_has ls 1 [(0, .ref a)] := hl
  have hP : va_P D vwCl [(a, .inr (7, [.null, .null, .null, .int 0]))] s.heap := hP
  refine lv_aload_n hx hb dX7_init_0 rfl (lv_at hl 0 rfl) ?_
  refine W.objInit hx hb hown (hts _ wm_4_2) (hts _ wm_1_11) (hts _ wm_1_12) rfl (by rw [hml]; exact hl.1) rfl dX7_init_1 (Nat.le_of_ble_eq_true rfl) (Nat.le_of_ble_eq_true rfl) ?_
  refine W.eq (g2 := F0 m 4 ls []) rfl ?_
  refine lv_aload_n hx hb dX7_init_4 rfl (lv_at hl 0 rfl) ?_
  refine lv_sipush (v := 1440) hx hb dX7_init_5 (by decide) ?_
  refine va_newa (atype := .int) (n := 1440) (N' := 1440) (a0 := (1440, .inl (fun _ => 0))) hx hb (hts _ wm_3_8) rfl hK.1 hP hD hS hA (fun _ => rfl) (by decide) (by decide) (Nat.le_of_ble_eq_true rfl) (Nat.le_of_ble_eq_true rfl) (Nat.le_of_ble_eq_true rfl) dX7_init_8 (fun q1 cA H hK2 hP hD hS => ?_)
  obtain rfl := cls_I hK hK2
  clear hK2
  have hP : va_P D vwCl [(a, .inr (7, [.null, .null, .null, .int 0])), (q1, .inl (G.1, 1440, .inl (fun _ => 0)))] H := hP
  have hD : va_D A [(a, .inr (7, [.null, .null, .null, .int 0])), (q1, .inl (G.1, 1440, .inl (fun _ => 0)))] := hD
  refine W.widen (k := 1) (n := 1440) (Nat.le_of_ble_eq_true rfl) (Nat.le_of_ble_eq_true rfl) ?_
  refine va_putF hx hb hts inlX7 tyX7 tyX7_ok nmX7 hown hK.1 hP hD hS 0 rfl rfl 0 (by decide) (hts _ wm_4_3) (fun _ h => h) rfl hin rfl rfl rfl rfl (Nat.le_of_ble_eq_true rfl) dX7_init_10 (fun H locs hP hD hS => ?_)
  have hP : va_P D vwCl [(a, .inr (7, [.ref q1, .null, .null, .int 0])), (q1, .inl (G.1, 1440, .inl (fun _ => 0)))] H := hP
  have hD : va_D A [(a, .inr (7, [.ref q1, .null, .null, .int 0])), (q1, .inl (G.1, 1440, .inl (fun _ => 0)))] := hD
  refine lv_aload_n hx hb dX7_init_13 rfl (lv_at hl 0 rfl) ?_
  refine lv_bipush (v := 12) hx hb dX7_init_14 (by decide) ?_
  refine va_newa (atype := .int) (n := 12) (N' := 12) (a0 := (12, .inl (fun _ => 0))) hx hb (hts _ wm_3_8) rfl hK.1 hP hD hS hA (fun _ => rfl) (by decide) (by decide) (Nat.le_of_ble_eq_true rfl) (Nat.le_of_ble_eq_true rfl) (Nat.le_of_ble_eq_true rfl) dX7_init_16 (fun q2 cA H hK2 hP hD hS => ?_)
  obtain rfl := cls_I hK hK2
  clear hK2
  have hP : va_P D vwCl [(a, .inr (7, [.ref q1, .null, .null, .int 0])), (q1, .inl (G.1, 1440, .inl (fun _ => 0))), (q2, .inl (G.1, 12, .inl (fun _ => 0)))] H := hP
  have hD : va_D A [(a, .inr (7, [.ref q1, .null, .null, .int 0])), (q1, .inl (G.1, 1440, .inl (fun _ => 0))), (q2, .inl (G.1, 12, .inl (fun _ => 0)))] := hD
  refine W.widen (k := 2) (n := 1452) (Nat.le_of_ble_eq_true rfl) (Nat.le_of_ble_eq_true rfl) ?_
  refine va_putF hx hb hts inlX7 tyX7 tyX7_ok nmX7 hown hK.1 hP hD hS 0 rfl rfl 1 (by decide) (hts _ wm_4_4) (fun _ h => h) rfl hin rfl rfl rfl rfl (Nat.le_of_ble_eq_true rfl) dX7_init_18 (fun H locs hP hD hS => ?_)
  have hP : va_P D vwCl [(a, .inr (7, [.ref q1, .ref q2, .null, .int 0])), (q1, .inl (G.1, 1440, .inl (fun _ => 0))), (q2, .inl (G.1, 12, .inl (fun _ => 0)))] H := hP
  have hD : va_D A [(a, .inr (7, [.ref q1, .ref q2, .null, .int 0])), (q1, .inl (G.1, 1440, .inl (fun _ => 0))), (q2, .inl (G.1, 12, .inl (fun _ => 0)))] := hD
  refine lv_aload_n hx hb dX7_init_21 rfl (lv_at hl 0 rfl) ?_
  refine lv_bipush (v := 32) hx hb dX7_init_22 (by decide) ?_
  refine va_newa (atype := .long) (n := 32) (N' := 32) (a0 := (32, .inr (.inl (fun _ => 0)))) hx hb (hts _ wm_3_1) rfl hK.1 hP hD hS hA (fun _ => rfl) (by decide) (by decide) (Nat.le_of_ble_eq_true rfl) (Nat.le_of_ble_eq_true rfl) (Nat.le_of_ble_eq_true rfl) dX7_init_24 (fun q3 cA H hK2 hP hD hS => ?_)
  obtain rfl := cls_J hK hK2
  clear hK2
  have hP : va_P D vwCl [(a, .inr (7, [.ref q1, .ref q2, .null, .int 0])), (q1, .inl (G.1, 1440, .inl (fun _ => 0))), (q2, .inl (G.1, 12, .inl (fun _ => 0))), (q3, .inl (G.2.1, 32, .inr (.inl (fun _ => 0))))] H := hP
  have hD : va_D A [(a, .inr (7, [.ref q1, .ref q2, .null, .int 0])), (q1, .inl (G.1, 1440, .inl (fun _ => 0))), (q2, .inl (G.1, 12, .inl (fun _ => 0))), (q3, .inl (G.2.1, 32, .inr (.inl (fun _ => 0))))] := hD
  refine W.widen (k := 3) (n := 1484) (Nat.le_of_ble_eq_true rfl) (Nat.le_of_ble_eq_true rfl) ?_
  refine va_putF hx hb hts inlX7 tyX7 tyX7_ok nmX7 hown hK.1 hP hD hS 0 rfl rfl 2 (by decide) (hts _ wm_4_5) (fun _ h => h) rfl hin rfl rfl rfl rfl (Nat.le_of_ble_eq_true rfl) dX7_init_26 (fun H locs hP hD hS => ?_)
  have hP : va_P D vwCl [(a, .inr (7, [.ref q1, .ref q2, .ref q3, .int 0])), (q1, .inl (G.1, 1440, .inl (fun _ => 0))), (q2, .inl (G.1, 12, .inl (fun _ => 0))), (q3, .inl (G.2.1, 32, .inr (.inl (fun _ => 0))))] H := hP
  have hD : va_D A [(a, .inr (7, [.ref q1, .ref q2, .ref q3, .int 0])), (q1, .inl (G.1, 1440, .inl (fun _ => 0))), (q2, .inl (G.1, 12, .inl (fun _ => 0))), (q3, .inl (G.2.1, 32, .inr (.inl (fun _ => 0))))] := hD
  have hPf : va_P D vwCl ([(a, .inr (7, [.ref q1, .ref q2, .ref q3, .int 0])), (q1, .inl (G.1, 1440, .inl (fun _ => 0))), (q2, .inl (G.1, 12, .inl (fun _ => 0))), (q3, .inl (G.2.1, 32, .inr (.inl (fun _ => 0))))]) H := hP.sub [0, 1, 2, 3] rfl
  have hDf : va_D A ([(a, .inr (7, [.ref q1, .ref q2, .ref q3, .int 0])), (q1, .inl (G.1, 1440, .inl (fun _ => 0))), (q2, .inl (G.1, 12, .inl (fun _ => 0))), (q3, .inl (G.2.1, 32, .inr (.inl (fun _ => 0))))]) := hD.sub [0, 1, 2, 3] (by decide) rfl
  exact W.vret hx hb hr (fun t ht _ => ⟨⟨fun i => [a, q1, q2, q3].getD i 0, rfl, trivial, by rw [ht]; exact hPf, hDf⟩, hS.F ht⟩) hS.2.2 dX7_init_29 hlk
def nX3 (G : G3) (a : Nat) (x : Nat → Nat) : va_W := [(a, .inr (3, [.ref (x 1), .ref (x 2), .ref (x 3), .ref (x 4), .ref (x 5), .int 0, .int 0, .int 0, .int 0, .int 0, .int 0, .long 0])), ((x 1), .inl (G.1, 5, .inl (upd (upd (upd (upd (upd (fun _ => 0) (0 : Int32).toNatClampNeg 1) (1 : Int32).toNatClampNeg 1) (2 : Int32).toNatClampNeg 1) (3 : Int32).toNatClampNeg 1) (4 : Int32).toNatClampNeg 1))), ((x 2), .inl (G.2.1, 25, .inr (.inl (fun _ => 0)))), ((x 3), .inl (G.2.1, 17, .inr (.inl (fun _ => 0)))), ((x 4), .inl (G.2.1, 13, .inr (.inl (fun _ => 0)))), ((x 5), .inl (G.2.1, 73, .inr (.inl (fun _ => 0))))]
set_option maxHeartbeats 40000000 in
set_option maxRecDepth 100000 in
theorem kX3_init (l : Launch) (D : va_G) (G : G3) (a : Nat) {sz : Nat} : Met l yX3_init (wsU yX3_init cX3_init 2 none) ({ frames := 1, cells := 5, slots := 133, locals := 50 } : Room) (va_Pc [.ref a] (Cp D G sz [(a, .inr (3, [.null, .null, .null, .null, .null, .int 0, .int 0, .int 0, .int 0, .int 0, .int 0, .long 0]))])) (va_Qv (fun _ : Nat → Nat => True) (fun x t => va_P D vwCl (nX3 G a x) t.heap ∧ va_D (va_A [(a, .inr (3, [.null, .null, .null, .null, .null, .int 0, .int 0, .int 0, .int 0, .int 0, .int 0, .long 0]))] sz) (nX3 G a x)) (va_A [(a, .inr (3, [.null, .null, .null, .null, .null, .int 0, .int 0, .int 0, .int 0, .int 0, .int 0, .long 0]))] sz)) 5 133 (va_A [(a, .inr (3, [.null, .null, .null, .null, .null, .int 0, .int 0, .int 0, .int 0, .int 0, .int 0, .long 0]))] sz) := by
  refine Met.ofW (cc := cX3_init) (maxL := 2) (ret := none) (by decide) rfl ?_
  intro p e s m args below meth c s₁ B hml hv
  obtain ⟨rfl, hsz, hP, hK, hKN⟩ := hv
  have hts0 := atoms_spec (ws := wsU yX3_init cX3_init 2 none) B.pre
  have hts : ∀ w ∈ wsL_law, w.before _ s = true := fun w h => hts0 w (List.mem_cons_of_mem _ h)
  have hx := B.exec
  have hb := B.bytes
  have hr := B.returns
  have hlk := B.notSynchronized
  have hown : s.vm.findClass RX3 = some m.cls := findClass_of_methodNamed B.named
  have hin : meth.name = "<init>" := (name_of_methodNamed B.named B.method).1
  subst hsz
  have hD := one_D a (.inr (3, [.null, .null, .null, .null, .null, .int 0, .int 0, .int 0, .int 0, .int 0, .int 0, .long 0])) s.heap.size
  generalize hAe : va_A [(a, .inr (3, [.null, .null, .null, .null, .null, .int 0, .int 0, .int 0, .int 0, .int 0, .int 0, .long 0]))] s.heap.size = A at hD ⊢
  have hA : ∀ q : Nat, s.heap.size ≤ q → A q := fun q h => by rw [← hAe]; exact Or.inr h
  have hS : va_S A s.heap s.heap [] := va_S.rf
  have hl := lv_entry ([.ref a]) (n := 2) (Nat.le_of_ble_eq_true rfl)
  rw [lg_entry_eq]
  generalize (lg_sl ([.ref a]) ++ List.replicate (2 - (lg_sl ([.ref a])).length) Slot.unset).toArray = ls at hl ⊢
  have hl : lv_has ls 2 [(0, .ref a)] := hl
  have hP : va_P D vwCl [(a, .inr (3, [.null, .null, .null, .null, .null, .int 0, .int 0, .int 0, .int 0, .int 0, .int 0, .long 0]))] s.heap := hP
  refine lv_aload_n hx hb dX3_init_0 rfl (lv_at hl 0 rfl) ?_
  refine W.objInit hx hb hown (hts _ wm_5_21) (hts _ wm_1_11) (hts _ wm_1_12) rfl (by rw [hml]; exact hl.1) rfl dX3_init_1 (Nat.le_of_ble_eq_true rfl) (Nat.le_of_ble_eq_true rfl) ?_
  refine W.eq (g2 := F0 m 4 ls []) rfl ?_
  refine lv_aload_n hx hb dX3_init_4 rfl (lv_at hl 0 rfl) ?_
  refine lv_iconst (v := 5) hx hb dX3_init_5 (by decide) ?_
  refine va_newa (atype := .int) (n := 5) (N' := 5) (a0 := (5, .inl (fun _ => 0))) hx hb (hts _ wm_3_8) rfl hK.1 hP hD hS hA (fun _ => rfl) (by decide) (by decide) (Nat.le_of_ble_eq_true rfl) (Nat.le_of_ble_eq_true rfl) (Nat.le_of_ble_eq_true rfl) dX3_init_6 (fun q1 cA H hK2 hP hD hS => ?_)
  obtain rfl := cls_I hK hK2
  clear hK2
  have hP : va_P D vwCl [(a, .inr (3, [.null, .null, .null, .null, .null, .int 0, .int 0, .int 0, .int 0, .int 0, .int 0, .long 0])), (q1, .inl (G.1, 5, .inl (fun _ => 0)))] H := hP
  have hD : va_D A [(a, .inr (3, [.null, .null, .null, .null, .null, .int 0, .int 0, .int 0, .int 0, .int 0, .int 0, .long 0])), (q1, .inl (G.1, 5, .inl (fun _ => 0)))] := hD
  refine W.widen (k := 1) (n := 5) (Nat.le_of_ble_eq_true rfl) (Nat.le_of_ble_eq_true rfl) ?_
  refine va_putF hx hb hts inlX3 tyX3 tyX3_ok nmX3 hown hK.1 hP hD hS 0 rfl rfl 0 (by decide) (hts _ wm_5_22) (fun _ h => h) rfl hin rfl rfl rfl rfl (Nat.le_of_ble_eq_true rfl) dX3_init_8 (fun H locs hP hD hS => ?_)
  have hP : va_P D vwCl [(a, .inr (3, [.ref q1, .null, .null, .null, .null, .int 0, .int 0, .int 0, .int 0, .int 0, .int 0, .long 0])), (q1, .inl (G.1, 5, .inl (fun _ => 0)))] H := hP
  have hD : va_D A [(a, .inr (3, [.ref q1, .null, .null, .null, .null, .int 0, .int 0, .int 0, .int 0, .int 0, .int 0, .long 0])), (q1, .inl (G.1, 5, .inl (fun _ => 0)))] := hD
  refine lv_aload_n hx hb dX3_init_11 rfl (lv_at hl 0 rfl) ?_
  refine lv_bipush (v := 25) hx hb dX3_init_12 (by decide) ?_
  refine va_newa (atype := .long) (n := 25) (N' := 25) (a0 := (25, .inr (.inl (fun _ => 0)))) hx hb (hts _ wm_3_1) rfl hK.1 hP hD hS hA (fun _ => rfl) (by decide) (by decide) (Nat.le_of_ble_eq_true rfl) (Nat.le_of_ble_eq_true rfl) (Nat.le_of_ble_eq_true rfl) dX3_init_14 (fun q2 cA H hK2 hP hD hS => ?_)
  obtain rfl := cls_J hK hK2
  clear hK2
  have hP : va_P D vwCl [(a, .inr (3, [.ref q1, .null, .null, .null, .null, .int 0, .int 0, .int 0, .int 0, .int 0, .int 0, .long 0])), (q1, .inl (G.1, 5, .inl (fun _ => 0))), (q2, .inl (G.2.1, 25, .inr (.inl (fun _ => 0))))] H := hP
  have hD : va_D A [(a, .inr (3, [.ref q1, .null, .null, .null, .null, .int 0, .int 0, .int 0, .int 0, .int 0, .int 0, .long 0])), (q1, .inl (G.1, 5, .inl (fun _ => 0))), (q2, .inl (G.2.1, 25, .inr (.inl (fun _ => 0))))] := hD
  refine W.widen (k := 2) (n := 30) (Nat.le_of_ble_eq_true rfl) (Nat.le_of_ble_eq_true rfl) ?_
  refine va_putF hx hb hts inlX3 tyX3 tyX3_ok nmX3 hown hK.1 hP hD hS 0 rfl rfl 1 (by decide) (hts _ wm_5_23) (fun _ h => h) rfl hin rfl rfl rfl rfl (Nat.le_of_ble_eq_true rfl) dX3_init_16 (fun H locs hP hD hS => ?_)
  have hP : va_P D vwCl [(a, .inr (3, [.ref q1, .ref q2, .null, .null, .null, .int 0, .int 0, .int 0, .int 0, .int 0, .int 0, .long 0])), (q1, .inl (G.1, 5, .inl (fun _ => 0))), (q2, .inl (G.2.1, 25, .inr (.inl (fun _ => 0))))] H := hP
  have hD : va_D A [(a, .inr (3, [.ref q1, .ref q2, .null, .null, .null, .int 0, .int 0, .int 0, .int 0, .int 0, .int 0, .long 0])), (q1, .inl (G.1, 5, .inl (fun _ => 0))), (q2, .inl (G.2.1, 25, .inr (.inl (fun _ => 0))))] := hD
  refine lv_aload_n hx hb dX3_init_19 rfl (lv_at hl 0 rfl) ?_
  refine lv_bipush (v := 17) hx hb dX3_init_20 (by decide) ?_
  refine va_newa (atype := .long) (n := 17) (N' := 17) (a0 := (17, .inr (.inl (fun _ => 0)))) hx hb (hts _ wm_3_1) rfl hK.1 hP hD hS hA (fun _ => rfl) (by decide) (by decide) (Nat.le_of_ble_eq_true rfl) (Nat.le_of_ble_eq_true rfl) (Nat.le_of_ble_eq_true rfl) dX3_init_22 (fun q3 cA H hK2 hP hD hS => ?_)
  obtain rfl := cls_J hK hK2
  clear hK2
  have hP : va_P D vwCl [(a, .inr (3, [.ref q1, .ref q2, .null, .null, .null, .int 0, .int 0, .int 0, .int 0, .int 0, .int 0, .long 0])), (q1, .inl (G.1, 5, .inl (fun _ => 0))), (q2, .inl (G.2.1, 25, .inr (.inl (fun _ => 0)))), (q3, .inl (G.2.1, 17, .inr (.inl (fun _ => 0))))] H := hP
  have hD : va_D A [(a, .inr (3, [.ref q1, .ref q2, .null, .null, .null, .int 0, .int 0, .int 0, .int 0, .int 0, .int 0, .long 0])), (q1, .inl (G.1, 5, .inl (fun _ => 0))), (q2, .inl (G.2.1, 25, .inr (.inl (fun _ => 0)))), (q3, .inl (G.2.1, 17, .inr (.inl (fun _ => 0))))] := hD
  refine W.widen (k := 3) (n := 47) (Nat.le_of_ble_eq_true rfl) (Nat.le_of_ble_eq_true rfl) ?_
  refine va_putF hx hb hts inlX3 tyX3 tyX3_ok nmX3 hown hK.1 hP hD hS 0 rfl rfl 2 (by decide) (hts _ wm_6_0) (fun _ h => h) rfl hin rfl rfl rfl rfl (Nat.le_of_ble_eq_true rfl) dX3_init_24 (fun H locs hP hD hS => ?_)
  have hP : va_P D vwCl [(a, .inr (3, [.ref q1, .ref q2, .ref q3, .null, .null, .int 0, .int 0, .int 0, .int 0, .int 0, .int 0, .long 0])), (q1, .inl (G.1, 5, .inl (fun _ => 0))), (q2, .inl (G.2.1, 25, .inr (.inl (fun _ => 0)))), (q3, .inl (G.2.1, 17, .inr (.inl (fun _ => 0))))] H := hP
  have hD : va_D A [(a, .inr (3, [.ref q1, .ref q2, .ref q3, .null, .null, .int 0, .int 0, .int 0, .int 0, .int 0, .int 0, .long 0])), (q1, .inl (G.1, 5, .inl (fun _ => 0))), (q2, .inl (G.2.1, 25, .inr (.inl (fun _ => 0)))), (q3, .inl (G.2.1, 17, .inr (.inl (fun _ => 0))))] := hD
  refine lv_aload_n hx hb dX3_init_27 rfl (lv_at hl 0 rfl) ?_
  refine lv_bipush (v := 13) hx hb dX3_init_28 (by decide) ?_
  refine va_newa (atype := .long) (n := 13) (N' := 13) (a0 := (13, .inr (.inl (fun _ => 0)))) hx hb (hts _ wm_3_1) rfl hK.1 hP hD hS hA (fun _ => rfl) (by decide) (by decide) (Nat.le_of_ble_eq_true rfl) (Nat.le_of_ble_eq_true rfl) (Nat.le_of_ble_eq_true rfl) dX3_init_30 (fun q4 cA H hK2 hP hD hS => ?_)
  obtain rfl := cls_J hK hK2
  clear hK2
  have hP : va_P D vwCl [(a, .inr (3, [.ref q1, .ref q2, .ref q3, .null, .null, .int 0, .int 0, .int 0, .int 0, .int 0, .int 0, .long 0])), (q1, .inl (G.1, 5, .inl (fun _ => 0))), (q2, .inl (G.2.1, 25, .inr (.inl (fun _ => 0)))), (q3, .inl (G.2.1, 17, .inr (.inl (fun _ => 0)))), (q4, .inl (G.2.1, 13, .inr (.inl (fun _ => 0))))] H := hP
  have hD : va_D A [(a, .inr (3, [.ref q1, .ref q2, .ref q3, .null, .null, .int 0, .int 0, .int 0, .int 0, .int 0, .int 0, .long 0])), (q1, .inl (G.1, 5, .inl (fun _ => 0))), (q2, .inl (G.2.1, 25, .inr (.inl (fun _ => 0)))), (q3, .inl (G.2.1, 17, .inr (.inl (fun _ => 0)))), (q4, .inl (G.2.1, 13, .inr (.inl (fun _ => 0))))] := hD
  refine W.widen (k := 4) (n := 60) (Nat.le_of_ble_eq_true rfl) (Nat.le_of_ble_eq_true rfl) ?_
  refine va_putF hx hb hts inlX3 tyX3 tyX3_ok nmX3 hown hK.1 hP hD hS 0 rfl rfl 3 (by decide) (hts _ wm_6_1) (fun _ h => h) rfl hin rfl rfl rfl rfl (Nat.le_of_ble_eq_true rfl) dX3_init_32 (fun H locs hP hD hS => ?_)
  have hP : va_P D vwCl [(a, .inr (3, [.ref q1, .ref q2, .ref q3, .ref q4, .null, .int 0, .int 0, .int 0, .int 0, .int 0, .int 0, .long 0])), (q1, .inl (G.1, 5, .inl (fun _ => 0))), (q2, .inl (G.2.1, 25, .inr (.inl (fun _ => 0)))), (q3, .inl (G.2.1, 17, .inr (.inl (fun _ => 0)))), (q4, .inl (G.2.1, 13, .inr (.inl (fun _ => 0))))] H := hP
  have hD : va_D A [(a, .inr (3, [.ref q1, .ref q2, .ref q3, .ref q4, .null, .int 0, .int 0, .int 0, .int 0, .int 0, .int 0, .long 0])), (q1, .inl (G.1, 5, .inl (fun _ => 0))), (q2, .inl (G.2.1, 25, .inr (.inl (fun _ => 0)))), (q3, .inl (G.2.1, 17, .inr (.inl (fun _ => 0)))), (q4, .inl (G.2.1, 13, .inr (.inl (fun _ => 0))))] := hD
  refine lv_aload_n hx hb dX3_init_35 rfl (lv_at hl 0 rfl) ?_
  refine lv_bipush (v := 73) hx hb dX3_init_36 (by decide) ?_
  refine va_newa (atype := .long) (n := 73) (N' := 73) (a0 := (73, .inr (.inl (fun _ => 0)))) hx hb (hts _ wm_3_1) rfl hK.1 hP hD hS hA (fun _ => rfl) (by decide) (by decide) (Nat.le_of_ble_eq_true rfl) (Nat.le_of_ble_eq_true rfl) (Nat.le_of_ble_eq_true rfl) dX3_init_38 (fun q5 cA H hK2 hP hD hS => ?_)
  obtain rfl := cls_J hK hK2
  clear hK2
  have hP : va_P D vwCl [(a, .inr (3, [.ref q1, .ref q2, .ref q3, .ref q4, .null, .int 0, .int 0, .int 0, .int 0, .int 0, .int 0, .long 0])), (q1, .inl (G.1, 5, .inl (fun _ => 0))), (q2, .inl (G.2.1, 25, .inr (.inl (fun _ => 0)))), (q3, .inl (G.2.1, 17, .inr (.inl (fun _ => 0)))), (q4, .inl (G.2.1, 13, .inr (.inl (fun _ => 0)))), (q5, .inl (G.2.1, 73, .inr (.inl (fun _ => 0))))] H := hP
  have hD : va_D A [(a, .inr (3, [.ref q1, .ref q2, .ref q3, .ref q4, .null, .int 0, .int 0, .int 0, .int 0, .int 0, .int 0, .long 0])), (q1, .inl (G.1, 5, .inl (fun _ => 0))), (q2, .inl (G.2.1, 25, .inr (.inl (fun _ => 0)))), (q3, .inl (G.2.1, 17, .inr (.inl (fun _ => 0)))), (q4, .inl (G.2.1, 13, .inr (.inl (fun _ => 0)))), (q5, .inl (G.2.1, 73, .inr (.inl (fun _ => 0))))] := hD
  refine W.widen (k := 5) (n := 133) (Nat.le_of_ble_eq_true rfl) (Nat.le_of_ble_eq_true rfl) ?_
  refine va_putF hx hb hts inlX3 tyX3 tyX3_ok nmX3 hown hK.1 hP hD hS 0 rfl rfl 4 (by decide) (hts _ wm_6_2) (fun _ h => h) rfl hin rfl rfl rfl rfl (Nat.le_of_ble_eq_true rfl) dX3_init_40 (fun H locs hP hD hS => ?_)
  have hP : va_P D vwCl [(a, .inr (3, [.ref q1, .ref q2, .ref q3, .ref q4, .ref q5, .int 0, .int 0, .int 0, .int 0, .int 0, .int 0, .long 0])), (q1, .inl (G.1, 5, .inl (fun _ => 0))), (q2, .inl (G.2.1, 25, .inr (.inl (fun _ => 0)))), (q3, .inl (G.2.1, 17, .inr (.inl (fun _ => 0)))), (q4, .inl (G.2.1, 13, .inr (.inl (fun _ => 0)))), (q5, .inl (G.2.1, 73, .inr (.inl (fun _ => 0))))] H := hP
  have hD : va_D A [(a, .inr (3, [.ref q1, .ref q2, .ref q3, .ref q4, .ref q5, .int 0, .int 0, .int 0, .int 0, .int 0, .int 0, .long 0])), (q1, .inl (G.1, 5, .inl (fun _ => 0))), (q2, .inl (G.2.1, 25, .inr (.inl (fun _ => 0)))), (q3, .inl (G.2.1, 17, .inr (.inl (fun _ => 0)))), (q4, .inl (G.2.1, 13, .inr (.inl (fun _ => 0)))), (q5, .inl (G.2.1, 73, .inr (.inl (fun _ => 0))))] := hD
  refine lv_iconst (v := 0) hx hb dX3_init_43 (by decide) ?_
  refine lv_istore_n (lv' := [(1, .int 0), (0, .ref a)]) hx hb dX3_init_44 rfl hl (by decide) rfl (fun ls hl => ?_)
  refine lv_iload_n hx hb dX3_init_45 rfl (lv_at hl 0 rfl) ?_
  refine lv_iconst (v := 4) hx hb dX3_init_46 (by decide) ?_
  refine lv_icmp_gt (tgt := 63) hx hb dX3_init_47 (by decide) (fun q => absurd q (by decide)) (fun q => ?_)
  refine lv_aload_n hx hb dX3_init_50 rfl (lv_at hl 1 rfl) ?_
  refine va_get hx hb hts inlX3 hown hK.1 hP 0 rfl rfl 0 (by decide) (hts _ wm_5_22) (fun _ h => h) rfl dX3_init_51 ?_
  refine lv_iload_n hx hb dX3_init_54 rfl (lv_at hl 0 rfl) ?_
  refine lv_iconst (v := 1) hx hb dX3_init_55 (by decide) ?_
  refine va_iast hx hb hK.1 hP hD hS 1 0 rfl rfl (inb_in rfl) dX3_init_56 (fun H locs hP hD hS => ?_)
  have hP : va_P D vwCl [(a, .inr (3, [.ref q1, .ref q2, .ref q3, .ref q4, .ref q5, .int 0, .int 0, .int 0, .int 0, .int 0, .int 0, .long 0])), (q1, .inl (G.1, 5, .inl (upd (fun _ => 0) (0 : Int32).toNatClampNeg 1))), (q2, .inl (G.2.1, 25, .inr (.inl (fun _ => 0)))), (q3, .inl (G.2.1, 17, .inr (.inl (fun _ => 0)))), (q4, .inl (G.2.1, 13, .inr (.inl (fun _ => 0)))), (q5, .inl (G.2.1, 73, .inr (.inl (fun _ => 0))))] H := hP
  have hD : va_D A [(a, .inr (3, [.ref q1, .ref q2, .ref q3, .ref q4, .ref q5, .int 0, .int 0, .int 0, .int 0, .int 0, .int 0, .long 0])), (q1, .inl (G.1, 5, .inl (upd (fun _ => 0) (0 : Int32).toNatClampNeg 1))), (q2, .inl (G.2.1, 25, .inr (.inl (fun _ => 0)))), (q3, .inl (G.2.1, 17, .inr (.inl (fun _ => 0)))), (q4, .inl (G.2.1, 13, .inr (.inl (fun _ => 0)))), (q5, .inl (G.2.1, 73, .inr (.inl (fun _ => 0))))] := hD
  refine lv_iinc (v := 1) (lv' := [(1, .int 1), (0, .ref a)]) hx hb dX3_init_57 hl (k := 0) rfl (by decide) (by decide) rfl (fun ls hl => ?_)
  refine lv_goto (tgt := 45) hx hb dX3_init_60 (by decide) ?_
  refine lv_iload_n hx hb dX3_init_45 rfl (lv_at hl 0 rfl) ?_
  refine lv_iconst (v := 4) hx hb dX3_init_46 (by decide) ?_
  refine lv_icmp_gt (tgt := 63) hx hb dX3_init_47 (by decide) (fun q => absurd q (by decide)) (fun q => ?_)
  refine lv_aload_n hx hb dX3_init_50 rfl (lv_at hl 1 rfl) ?_
  refine va_get hx hb hts inlX3 hown hK.1 hP 0 rfl rfl 0 (by decide) (hts _ wm_5_22) (fun _ h => h) rfl dX3_init_51 ?_
  refine lv_iload_n hx hb dX3_init_54 rfl (lv_at hl 0 rfl) ?_
  refine lv_iconst (v := 1) hx hb dX3_init_55 (by decide) ?_
  refine va_iast hx hb hK.1 hP hD hS 1 0 rfl rfl (inb_in rfl) dX3_init_56 (fun H locs hP hD hS => ?_)
  have hP : va_P D vwCl [(a, .inr (3, [.ref q1, .ref q2, .ref q3, .ref q4, .ref q5, .int 0, .int 0, .int 0, .int 0, .int 0, .int 0, .long 0])), (q1, .inl (G.1, 5, .inl (upd (upd (fun _ => 0) (0 : Int32).toNatClampNeg 1) (1 : Int32).toNatClampNeg 1))), (q2, .inl (G.2.1, 25, .inr (.inl (fun _ => 0)))), (q3, .inl (G.2.1, 17, .inr (.inl (fun _ => 0)))), (q4, .inl (G.2.1, 13, .inr (.inl (fun _ => 0)))), (q5, .inl (G.2.1, 73, .inr (.inl (fun _ => 0))))] H := hP
  have hD : va_D A [(a, .inr (3, [.ref q1, .ref q2, .ref q3, .ref q4, .ref q5, .int 0, .int 0, .int 0, .int 0, .int 0, .int 0, .long 0])), (q1, .inl (G.1, 5, .inl (upd (upd (fun _ => 0) (0 : Int32).toNatClampNeg 1) (1 : Int32).toNatClampNeg 1))), (q2, .inl (G.2.1, 25, .inr (.inl (fun _ => 0)))), (q3, .inl (G.2.1, 17, .inr (.inl (fun _ => 0)))), (q4, .inl (G.2.1, 13, .inr (.inl (fun _ => 0)))), (q5, .inl (G.2.1, 73, .inr (.inl (fun _ => 0))))] := hD
  refine lv_iinc (v := 2) (lv' := [(1, .int 2), (0, .ref a)]) hx hb dX3_init_57 hl (k := 0) rfl (by decide) (by decide) rfl (fun ls hl => ?_)
  refine lv_goto (tgt := 45) hx hb dX3_init_60 (by decide) ?_
  refine lv_iload_n hx hb dX3_init_45 rfl (lv_at hl 0 rfl) ?_
  refine lv_iconst (v := 4) hx hb dX3_init_46 (by decide) ?_
  refine lv_icmp_gt (tgt := 63) hx hb dX3_init_47 (by decide) (fun q => absurd q (by decide)) (fun q => ?_)
  refine lv_aload_n hx hb dX3_init_50 rfl (lv_at hl 1 rfl) ?_
  refine va_get hx hb hts inlX3 hown hK.1 hP 0 rfl rfl 0 (by decide) (hts _ wm_5_22) (fun _ h => h) rfl dX3_init_51 ?_
  refine lv_iload_n hx hb dX3_init_54 rfl (lv_at hl 0 rfl) ?_
  refine lv_iconst (v := 1) hx hb dX3_init_55 (by decide) ?_
  refine va_iast hx hb hK.1 hP hD hS 1 0 rfl rfl (inb_in rfl) dX3_init_56 (fun H locs hP hD hS => ?_)
  have hP : va_P D vwCl [(a, .inr (3, [.ref q1, .ref q2, .ref q3, .ref q4, .ref q5, .int 0, .int 0, .int 0, .int 0, .int 0, .int 0, .long 0])), (q1, .inl (G.1, 5, .inl (upd (upd (upd (fun _ => 0) (0 : Int32).toNatClampNeg 1) (1 : Int32).toNatClampNeg 1) (2 : Int32).toNatClampNeg 1))), (q2, .inl (G.2.1, 25, .inr (.inl (fun _ => 0)))), (q3, .inl (G.2.1, 17, .inr (.inl (fun _ => 0)))), (q4, .inl (G.2.1, 13, .inr (.inl (fun _ => 0)))), (q5, .inl (G.2.1, 73, .inr (.inl (fun _ => 0))))] H := hP
  have hD : va_D A [(a, .inr (3, [.ref q1, .ref q2, .ref q3, .ref q4, .ref q5, .int 0, .int 0, .int 0, .int 0, .int 0, .int 0, .long 0])), (q1, .inl (G.1, 5, .inl (upd (upd (upd (fun _ => 0) (0 : Int32).toNatClampNeg 1) (1 : Int32).toNatClampNeg 1) (2 : Int32).toNatClampNeg 1))), (q2, .inl (G.2.1, 25, .inr (.inl (fun _ => 0)))), (q3, .inl (G.2.1, 17, .inr (.inl (fun _ => 0)))), (q4, .inl (G.2.1, 13, .inr (.inl (fun _ => 0)))), (q5, .inl (G.2.1, 73, .inr (.inl (fun _ => 0))))] := hD
  refine lv_iinc (v := 3) (lv' := [(1, .int 3), (0, .ref a)]) hx hb dX3_init_57 hl (k := 0) rfl (by decide) (by decide) rfl (fun ls hl => ?_)
  refine lv_goto (tgt := 45) hx hb dX3_init_60 (by decide) ?_
  refine lv_iload_n hx hb dX3_init_45 rfl (lv_at hl 0 rfl) ?_
  refine lv_iconst (v := 4) hx hb dX3_init_46 (by decide) ?_
  refine lv_icmp_gt (tgt := 63) hx hb dX3_init_47 (by decide) (fun q => absurd q (by decide)) (fun q => ?_)
  refine lv_aload_n hx hb dX3_init_50 rfl (lv_at hl 1 rfl) ?_
  refine va_get hx hb hts inlX3 hown hK.1 hP 0 rfl rfl 0 (by decide) (hts _ wm_5_22) (fun _ h => h) rfl dX3_init_51 ?_
  refine lv_iload_n hx hb dX3_init_54 rfl (lv_at hl 0 rfl) ?_
  refine lv_iconst (v := 1) hx hb dX3_init_55 (by decide) ?_
  refine va_iast hx hb hK.1 hP hD hS 1 0 rfl rfl (inb_in rfl) dX3_init_56 (fun H locs hP hD hS => ?_)
  have hP : va_P D vwCl [(a, .inr (3, [.ref q1, .ref q2, .ref q3, .ref q4, .ref q5, .int 0, .int 0, .int 0, .int 0, .int 0, .int 0, .long 0])), (q1, .inl (G.1, 5, .inl (upd (upd (upd (upd (fun _ => 0) (0 : Int32).toNatClampNeg 1) (1 : Int32).toNatClampNeg 1) (2 : Int32).toNatClampNeg 1) (3 : Int32).toNatClampNeg 1))), (q2, .inl (G.2.1, 25, .inr (.inl (fun _ => 0)))), (q3, .inl (G.2.1, 17, .inr (.inl (fun _ => 0)))), (q4, .inl (G.2.1, 13, .inr (.inl (fun _ => 0)))), (q5, .inl (G.2.1, 73, .inr (.inl (fun _ => 0))))] H := hP
  have hD : va_D A [(a, .inr (3, [.ref q1, .ref q2, .ref q3, .ref q4, .ref q5, .int 0, .int 0, .int 0, .int 0, .int 0, .int 0, .long 0])), (q1, .inl (G.1, 5, .inl (upd (upd (upd (upd (fun _ => 0) (0 : Int32).toNatClampNeg 1) (1 : Int32).toNatClampNeg 1) (2 : Int32).toNatClampNeg 1) (3 : Int32).toNatClampNeg 1))), (q2, .inl (G.2.1, 25, .inr (.inl (fun _ => 0)))), (q3, .inl (G.2.1, 17, .inr (.inl (fun _ => 0)))), (q4, .inl (G.2.1, 13, .inr (.inl (fun _ => 0)))), (q5, .inl (G.2.1, 73, .inr (.inl (fun _ => 0))))] := hD
  refine lv_iinc (v := 4) (lv' := [(1, .int 4), (0, .ref a)]) hx hb dX3_init_57 hl (k := 0) rfl (by decide) (by decide) rfl (fun ls hl => ?_)
  refine lv_goto (tgt := 45) hx hb dX3_init_60 (by decide) ?_
  refine lv_iload_n hx hb dX3_init_45 rfl (lv_at hl 0 rfl) ?_
  refine lv_iconst (v := 4) hx hb dX3_init_46 (by decide) ?_
  refine lv_icmp_gt (tgt := 63) hx hb dX3_init_47 (by decide) (fun q => absurd q (by decide)) (fun q => ?_)
  refine lv_aload_n hx hb dX3_init_50 rfl (lv_at hl 1 rfl) ?_
  refine va_get hx hb hts inlX3 hown hK.1 hP 0 rfl rfl 0 (by decide) (hts _ wm_5_22) (fun _ h => h) rfl dX3_init_51 ?_
  refine lv_iload_n hx hb dX3_init_54 rfl (lv_at hl 0 rfl) ?_
  refine lv_iconst (v := 1) hx hb dX3_init_55 (by decide) ?_
  refine va_iast hx hb hK.1 hP hD hS 1 0 rfl rfl (inb_in rfl) dX3_init_56 (fun H locs hP hD hS => ?_)
  have hP : va_P D vwCl [(a, .inr (3, [.ref q1, .ref q2, .ref q3, .ref q4, .ref q5, .int 0, .int 0, .int 0, .int 0, .int 0, .int 0, .long 0])), (q1, .inl (G.1, 5, .inl (upd (upd (upd (upd (upd (fun _ => 0) (0 : Int32).toNatClampNeg 1) (1 : Int32).toNatClampNeg 1) (2 : Int32).toNatClampNeg 1) (3 : Int32).toNatClampNeg 1) (4 : Int32).toNatClampNeg 1))), (q2, .inl (G.2.1, 25, .inr (.inl (fun _ => 0)))), (q3, .inl (G.2.1, 17, .inr (.inl (fun _ => 0)))), (q4, .inl (G.2.1, 13, .inr (.inl (fun _ => 0)))), (q5, .inl (G.2.1, 73, .inr (.inl (fun _ => 0))))] H := hP
  have hD : va_D A [(a, .inr (3, [.ref q1, .ref q2, .ref q3, .ref q4, .ref q5, .int 0, .int 0, .int 0, .int 0, .int 0, .int 0, .long 0])), (q1, .inl (G.1, 5, .inl (upd (upd (upd (upd (upd (fun _ => 0) (0 : Int32).toNatClampNeg 1) (1 : Int32).toNatClampNeg 1) (2 : Int32).toNatClampNeg 1) (3 : Int32).toNatClampNeg 1) (4 : Int32).toNatClampNeg 1))), (q2, .inl (G.2.1, 25, .inr (.inl (fun _ => 0)))), (q3, .inl (G.2.1, 17, .inr (.inl (fun _ => 0)))), (q4, .inl (G.2.1, 13, .inr (.inl (fun _ => 0)))), (q5, .inl (G.2.1, 73, .inr (.inl (fun _ => 0))))] := hD
  refine lv_iinc (v := 5) (lv' := [(1, .int 5), (0, .ref a)]) hx hb dX3_init_57 hl (k := 0) rfl (by decide) (by decide) rfl (fun ls hl => ?_)
  refine lv_goto (tgt := 45) hx hb dX3_init_60 (by decide) ?_
  refine lv_iload_n hx hb dX3_init_45 rfl (lv_at hl 0 rfl) ?_
  refine lv_iconst (v := 4) hx hb dX3_init_46 (by decide) ?_
  refine lv_icmp_gt (tgt := 63) hx hb dX3_init_47 (by decide) (fun q => ?_) (fun q => absurd (by decide) q)
  have hPf : va_P D vwCl ([(a, .inr (3, [.ref q1, .ref q2, .ref q3, .ref q4, .ref q5, .int 0, .int 0, .int 0, .int 0, .int 0, .int 0, .long 0])), (q1, .inl (G.1, 5, .inl (upd (upd (upd (upd (upd (fun _ => 0) (0 : Int32).toNatClampNeg 1) (1 : Int32).toNatClampNeg 1) (2 : Int32).toNatClampNeg 1) (3 : Int32).toNatClampNeg 1) (4 : Int32).toNatClampNeg 1))), (q2, .inl (G.2.1, 25, .inr (.inl (fun _ => 0)))), (q3, .inl (G.2.1, 17, .inr (.inl (fun _ => 0)))), (q4, .inl (G.2.1, 13, .inr (.inl (fun _ => 0)))), (q5, .inl (G.2.1, 73, .inr (.inl (fun _ => 0))))]) H := hP.sub [0, 1, 2, 3, 4, 5] rfl
  have hDf : va_D A ([(a, .inr (3, [.ref q1, .ref q2, .ref q3, .ref q4, .ref q5, .int 0, .int 0, .int 0, .int 0, .int 0, .int 0, .long 0])), (q1, .inl (G.1, 5, .inl (upd (upd (upd (upd (upd (fun _ => 0) (0 : Int32).toNatClampNeg 1) (1 : Int32).toNatClampNeg 1) (2 : Int32).toNatClampNeg 1) (3 : Int32).toNatClampNeg 1) (4 : Int32).toNatClampNeg 1))), (q2, .inl (G.2.1, 25, .inr (.inl (fun _ => 0)))), (q3, .inl (G.2.1, 17, .inr (.inl (fun _ => 0)))), (q4, .inl (G.2.1, 13, .inr (.inl (fun _ => 0)))), (q5, .inl (G.2.1, 73, .inr (.inl (fun _ => 0))))]) := hD.sub [0, 1, 2, 3, 4, 5] (by decide) rfl
  exact W.vret hx hb hr (fun t ht _ => ⟨⟨fun i => [a, q1, q2, q3, q4, q5].getD i 0, rfl, trivial, by rw [ht]; exact hPf, hDf⟩, hS.F ht⟩) hS.2.2 dX3_init_63 hlk
def nX1 (G : G3) (a : Nat) (x : Nat → Nat) : va_W := [(a, .inr (1, [.ref (x 1), .ref (x 2), .ref (x 3), .ref (x 4), .ref (x 5), .ref (x 6), .ref (x 7), .ref (x 8), .ref (x 9), .ref (x 10), .int 0, .long 0, .long 0])), ((x 1), .inl (G.1, 8, .inl (fun _ => 0))), ((x 2), .inl (G.1, 48, .inl (fun _ => 0))), ((x 3), .inl (G.1, 8, .inl (fun _ => 0))), ((x 4), .inl (G.1, 8, .inl (fun _ => 0))), ((x 5), .inl (G.1, 8, .inl (fun _ => 0))), ((x 6), .inl (G.1, 8, .inl (fun _ => 0))), ((x 7), .inl (G.1, 8, .inl (fun _ => 0))), ((x 8), .inl (G.1, 32, .inl (fun _ => 0))), ((x 9), .inl (G.1, 32, .inl (fun _ => 0))), ((x 10), .inl (G.2.1, 8, .inr (.inl (fun _ => 0))))]
set_option maxHeartbeats 40000000 in
set_option maxRecDepth 100000 in
theorem kX1_init (l : Launch) (D : va_G) (G : G3) (a : Nat) {sz : Nat} : Met l yX1_init (wsU yX1_init cX1_init 1 none) ({ frames := 1, cells := 10, slots := 168, locals := 50 } : Room) (va_Pc [.ref a] (Cp D G sz [(a, .inr (1, [.null, .null, .null, .null, .null, .null, .null, .null, .null, .null, .int 0, .long 0, .long 0]))])) (va_Qv (fun _ : Nat → Nat => True) (fun x t => va_P D vwCl (nX1 G a x) t.heap ∧ va_D (va_A [(a, .inr (1, [.null, .null, .null, .null, .null, .null, .null, .null, .null, .null, .int 0, .long 0, .long 0]))] sz) (nX1 G a x)) (va_A [(a, .inr (1, [.null, .null, .null, .null, .null, .null, .null, .null, .null, .null, .int 0, .long 0, .long 0]))] sz)) 10 168 (va_A [(a, .inr (1, [.null, .null, .null, .null, .null, .null, .null, .null, .null, .null, .int 0, .long 0, .long 0]))] sz) := by
  refine Met.ofW (cc := cX1_init) (maxL := 1) (ret := none) (by decide) rfl ?_
  intro p e s m args below meth c s₁ B hml hv
  obtain ⟨rfl, hsz, hP, hK, hKN⟩ := hv
  have hts0 := atoms_spec (ws := wsU yX1_init cX1_init 1 none) B.pre
  have hts : ∀ w ∈ wsL_law, w.before _ s = true := fun w h => hts0 w (List.mem_cons_of_mem _ h)
  have hx := B.exec
  have hb := B.bytes
  have hr := B.returns
  have hlk := B.notSynchronized
  have hown : s.vm.findClass RX1 = some m.cls := findClass_of_methodNamed B.named
  have hin : meth.name = "<init>" := (name_of_methodNamed B.named B.method).1
  subst hsz
  have hD := one_D a (.inr (1, [.null, .null, .null, .null, .null, .null, .null, .null, .null, .null, .int 0, .long 0, .long 0])) s.heap.size
  generalize hAe : va_A [(a, .inr (1, [.null, .null, .null, .null, .null, .null, .null, .null, .null, .null, .int 0, .long 0, .long 0]))] s.heap.size = A at hD ⊢
  have hA : ∀ q : Nat, s.heap.size ≤ q → A q := fun q h => by rw [← hAe]; exact Or.inr h
  have hS : va_S A s.heap s.heap [] := va_S.rf
  have hl := lv_entry ([.ref a]) (n := 1) (Nat.le_of_ble_eq_true rfl)
  rw [lg_entry_eq]
  generalize (lg_sl ([.ref a]) ++ List.replicate (1 - (lg_sl ([.ref a])).length) Slot.unset).toArray = ls at hl ⊢
  have hl : lv_has ls 1 [(0, .ref a)] := hl
  have hP : va_P D vwCl [(a, .inr (1, [.null, .null, .null, .null, .null, .null, .null, .null, .null, .null, .int 0, .long 0, .long 0]))] s.heap := hP
  refine lv_aload_n hx hb dX1_init_0 rfl (lv_at hl 0 rfl) ?_
  refine W.objInit hx hb hown (hts _ wm_6_11) (hts _ wm_1_11) (hts _ wm_1_12) rfl (by rw [hml]; exact hl.1) rfl dX1_init_1 (Nat.le_of_ble_eq_true rfl) (Nat.le_of_ble_eq_true rfl) ?_
  refine W.eq (g2 := F0 m 4 ls []) rfl ?_
  refine lv_aload_n hx hb dX1_init_4 rfl (lv_at hl 0 rfl) ?_
  refine lv_bipush (v := 8) hx hb dX1_init_5 (by decide) ?_
  refine va_newa (atype := .int) (n := 8) (N' := 8) (a0 := (8, .inl (fun _ => 0))) hx hb (hts _ wm_3_8) rfl hK.1 hP hD hS hA (fun _ => rfl) (by decide) (by decide) (Nat.le_of_ble_eq_true rfl) (Nat.le_of_ble_eq_true rfl) (Nat.le_of_ble_eq_true rfl) dX1_init_7 (fun q1 cA H hK2 hP hD hS => ?_)
  obtain rfl := cls_I hK hK2
  clear hK2
  have hP : va_P D vwCl [(a, .inr (1, [.null, .null, .null, .null, .null, .null, .null, .null, .null, .null, .int 0, .long 0, .long 0])), (q1, .inl (G.1, 8, .inl (fun _ => 0)))] H := hP
  have hD : va_D A [(a, .inr (1, [.null, .null, .null, .null, .null, .null, .null, .null, .null, .null, .int 0, .long 0, .long 0])), (q1, .inl (G.1, 8, .inl (fun _ => 0)))] := hD
  refine W.widen (k := 1) (n := 8) (Nat.le_of_ble_eq_true rfl) (Nat.le_of_ble_eq_true rfl) ?_
  refine va_putF hx hb hts inlX1 tyX1 tyX1_ok nmX1 hown hK.1 hP hD hS 0 rfl rfl 0 (by decide) (hts _ wm_6_12) (fun _ h => h) rfl hin rfl rfl rfl rfl (Nat.le_of_ble_eq_true rfl) dX1_init_9 (fun H locs hP hD hS => ?_)
  have hP : va_P D vwCl [(a, .inr (1, [.ref q1, .null, .null, .null, .null, .null, .null, .null, .null, .null, .int 0, .long 0, .long 0])), (q1, .inl (G.1, 8, .inl (fun _ => 0)))] H := hP
  have hD : va_D A [(a, .inr (1, [.ref q1, .null, .null, .null, .null, .null, .null, .null, .null, .null, .int 0, .long 0, .long 0])), (q1, .inl (G.1, 8, .inl (fun _ => 0)))] := hD
  refine lv_aload_n hx hb dX1_init_12 rfl (lv_at hl 0 rfl) ?_
  refine lv_bipush (v := 48) hx hb dX1_init_13 (by decide) ?_
  refine va_newa (atype := .int) (n := 48) (N' := 48) (a0 := (48, .inl (fun _ => 0))) hx hb (hts _ wm_3_8) rfl hK.1 hP hD hS hA (fun _ => rfl) (by decide) (by decide) (Nat.le_of_ble_eq_true rfl) (Nat.le_of_ble_eq_true rfl) (Nat.le_of_ble_eq_true rfl) dX1_init_15 (fun q2 cA H hK2 hP hD hS => ?_)
  obtain rfl := cls_I hK hK2
  clear hK2
  have hP : va_P D vwCl [(a, .inr (1, [.ref q1, .null, .null, .null, .null, .null, .null, .null, .null, .null, .int 0, .long 0, .long 0])), (q1, .inl (G.1, 8, .inl (fun _ => 0))), (q2, .inl (G.1, 48, .inl (fun _ => 0)))] H := hP
  have hD : va_D A [(a, .inr (1, [.ref q1, .null, .null, .null, .null, .null, .null, .null, .null, .null, .int 0, .long 0, .long 0])), (q1, .inl (G.1, 8, .inl (fun _ => 0))), (q2, .inl (G.1, 48, .inl (fun _ => 0)))] := hD
  refine W.widen (k := 2) (n := 56) (Nat.le_of_ble_eq_true rfl) (Nat.le_of_ble_eq_true rfl) ?_
  refine va_putF hx hb hts inlX1 tyX1 tyX1_ok nmX1 hown hK.1 hP hD hS 0 rfl rfl 1 (by decide) (hts _ wm_6_13) (fun _ h => h) rfl hin rfl rfl rfl rfl (Nat.le_of_ble_eq_true rfl) dX1_init_17 (fun H locs hP hD hS => ?_)
  have hP : va_P D vwCl [(a, .inr (1, [.ref q1, .ref q2, .null, .null, .null, .null, .null, .null, .null, .null, .int 0, .long 0, .long 0])), (q1, .inl (G.1, 8, .inl (fun _ => 0))), (q2, .inl (G.1, 48, .inl (fun _ => 0)))] H := hP
  have hD : va_D A [(a, .inr (1, [.ref q1, .ref q2, .null, .null, .null, .null, .null, .null, .null, .null, .int 0, .long 0, .long 0])), (q1, .inl (G.1, 8, .inl (fun _ => 0))), (q2, .inl (G.1, 48, .inl (fun _ => 0)))] := hD
  refine lv_aload_n hx hb dX1_init_20 rfl (lv_at hl 0 rfl) ?_
  refine lv_bipush (v := 8) hx hb dX1_init_21 (by decide) ?_
  refine va_newa (atype := .int) (n := 8) (N' := 8) (a0 := (8, .inl (fun _ => 0))) hx hb (hts _ wm_3_8) rfl hK.1 hP hD hS hA (fun _ => rfl) (by decide) (by decide) (Nat.le_of_ble_eq_true rfl) (Nat.le_of_ble_eq_true rfl) (Nat.le_of_ble_eq_true rfl) dX1_init_23 (fun q3 cA H hK2 hP hD hS => ?_)
  obtain rfl := cls_I hK hK2
  clear hK2
  have hP : va_P D vwCl [(a, .inr (1, [.ref q1, .ref q2, .null, .null, .null, .null, .null, .null, .null, .null, .int 0, .long 0, .long 0])), (q1, .inl (G.1, 8, .inl (fun _ => 0))), (q2, .inl (G.1, 48, .inl (fun _ => 0))), (q3, .inl (G.1, 8, .inl (fun _ => 0)))] H := hP
  have hD : va_D A [(a, .inr (1, [.ref q1, .ref q2, .null, .null, .null, .null, .null, .null, .null, .null, .int 0, .long 0, .long 0])), (q1, .inl (G.1, 8, .inl (fun _ => 0))), (q2, .inl (G.1, 48, .inl (fun _ => 0))), (q3, .inl (G.1, 8, .inl (fun _ => 0)))] := hD
  refine W.widen (k := 3) (n := 64) (Nat.le_of_ble_eq_true rfl) (Nat.le_of_ble_eq_true rfl) ?_
  refine va_putF hx hb hts inlX1 tyX1 tyX1_ok nmX1 hown hK.1 hP hD hS 0 rfl rfl 2 (by decide) (hts _ wm_6_14) (fun _ h => h) rfl hin rfl rfl rfl rfl (Nat.le_of_ble_eq_true rfl) dX1_init_25 (fun H locs hP hD hS => ?_)
  have hP : va_P D vwCl [(a, .inr (1, [.ref q1, .ref q2, .ref q3, .null, .null, .null, .null, .null, .null, .null, .int 0, .long 0, .long 0])), (q1, .inl (G.1, 8, .inl (fun _ => 0))), (q2, .inl (G.1, 48, .inl (fun _ => 0))), (q3, .inl (G.1, 8, .inl (fun _ => 0)))] H := hP
  have hD : va_D A [(a, .inr (1, [.ref q1, .ref q2, .ref q3, .null, .null, .null, .null, .null, .null, .null, .int 0, .long 0, .long 0])), (q1, .inl (G.1, 8, .inl (fun _ => 0))), (q2, .inl (G.1, 48, .inl (fun _ => 0))), (q3, .inl (G.1, 8, .inl (fun _ => 0)))] := hD
  refine lv_aload_n hx hb dX1_init_28 rfl (lv_at hl 0 rfl) ?_
  refine lv_bipush (v := 8) hx hb dX1_init_29 (by decide) ?_
  refine va_newa (atype := .int) (n := 8) (N' := 8) (a0 := (8, .inl (fun _ => 0))) hx hb (hts _ wm_3_8) rfl hK.1 hP hD hS hA (fun _ => rfl) (by decide) (by decide) (Nat.le_of_ble_eq_true rfl) (Nat.le_of_ble_eq_true rfl) (Nat.le_of_ble_eq_true rfl) dX1_init_31 (fun q4 cA H hK2 hP hD hS => ?_)
  obtain rfl := cls_I hK hK2
  clear hK2
  have hP : va_P D vwCl [(a, .inr (1, [.ref q1, .ref q2, .ref q3, .null, .null, .null, .null, .null, .null, .null, .int 0, .long 0, .long 0])), (q1, .inl (G.1, 8, .inl (fun _ => 0))), (q2, .inl (G.1, 48, .inl (fun _ => 0))), (q3, .inl (G.1, 8, .inl (fun _ => 0))), (q4, .inl (G.1, 8, .inl (fun _ => 0)))] H := hP
  have hD : va_D A [(a, .inr (1, [.ref q1, .ref q2, .ref q3, .null, .null, .null, .null, .null, .null, .null, .int 0, .long 0, .long 0])), (q1, .inl (G.1, 8, .inl (fun _ => 0))), (q2, .inl (G.1, 48, .inl (fun _ => 0))), (q3, .inl (G.1, 8, .inl (fun _ => 0))), (q4, .inl (G.1, 8, .inl (fun _ => 0)))] := hD
  refine W.widen (k := 4) (n := 72) (Nat.le_of_ble_eq_true rfl) (Nat.le_of_ble_eq_true rfl) ?_
  refine va_putF hx hb hts inlX1 tyX1 tyX1_ok nmX1 hown hK.1 hP hD hS 0 rfl rfl 3 (by decide) (hts _ wm_6_15) (fun _ h => h) rfl hin rfl rfl rfl rfl (Nat.le_of_ble_eq_true rfl) dX1_init_33 (fun H locs hP hD hS => ?_)
  have hP : va_P D vwCl [(a, .inr (1, [.ref q1, .ref q2, .ref q3, .ref q4, .null, .null, .null, .null, .null, .null, .int 0, .long 0, .long 0])), (q1, .inl (G.1, 8, .inl (fun _ => 0))), (q2, .inl (G.1, 48, .inl (fun _ => 0))), (q3, .inl (G.1, 8, .inl (fun _ => 0))), (q4, .inl (G.1, 8, .inl (fun _ => 0)))] H := hP
  have hD : va_D A [(a, .inr (1, [.ref q1, .ref q2, .ref q3, .ref q4, .null, .null, .null, .null, .null, .null, .int 0, .long 0, .long 0])), (q1, .inl (G.1, 8, .inl (fun _ => 0))), (q2, .inl (G.1, 48, .inl (fun _ => 0))), (q3, .inl (G.1, 8, .inl (fun _ => 0))), (q4, .inl (G.1, 8, .inl (fun _ => 0)))] := hD
  refine lv_aload_n hx hb dX1_init_36 rfl (lv_at hl 0 rfl) ?_
  refine lv_bipush (v := 8) hx hb dX1_init_37 (by decide) ?_
  refine va_newa (atype := .int) (n := 8) (N' := 8) (a0 := (8, .inl (fun _ => 0))) hx hb (hts _ wm_3_8) rfl hK.1 hP hD hS hA (fun _ => rfl) (by decide) (by decide) (Nat.le_of_ble_eq_true rfl) (Nat.le_of_ble_eq_true rfl) (Nat.le_of_ble_eq_true rfl) dX1_init_39 (fun q5 cA H hK2 hP hD hS => ?_)
  obtain rfl := cls_I hK hK2
  clear hK2
  have hP : va_P D vwCl [(a, .inr (1, [.ref q1, .ref q2, .ref q3, .ref q4, .null, .null, .null, .null, .null, .null, .int 0, .long 0, .long 0])), (q1, .inl (G.1, 8, .inl (fun _ => 0))), (q2, .inl (G.1, 48, .inl (fun _ => 0))), (q3, .inl (G.1, 8, .inl (fun _ => 0))), (q4, .inl (G.1, 8, .inl (fun _ => 0))), (q5, .inl (G.1, 8, .inl (fun _ => 0)))] H := hP
  have hD : va_D A [(a, .inr (1, [.ref q1, .ref q2, .ref q3, .ref q4, .null, .null, .null, .null, .null, .null, .int 0, .long 0, .long 0])), (q1, .inl (G.1, 8, .inl (fun _ => 0))), (q2, .inl (G.1, 48, .inl (fun _ => 0))), (q3, .inl (G.1, 8, .inl (fun _ => 0))), (q4, .inl (G.1, 8, .inl (fun _ => 0))), (q5, .inl (G.1, 8, .inl (fun _ => 0)))] := hD
  refine W.widen (k := 5) (n := 80) (Nat.le_of_ble_eq_true rfl) (Nat.le_of_ble_eq_true rfl) ?_
  refine va_putF hx hb hts inlX1 tyX1 tyX1_ok nmX1 hown hK.1 hP hD hS 0 rfl rfl 4 (by decide) (hts _ wm_6_16) (fun _ h => h) rfl hin rfl rfl rfl rfl (Nat.le_of_ble_eq_true rfl) dX1_init_41 (fun H locs hP hD hS => ?_)
  have hP : va_P D vwCl [(a, .inr (1, [.ref q1, .ref q2, .ref q3, .ref q4, .ref q5, .null, .null, .null, .null, .null, .int 0, .long 0, .long 0])), (q1, .inl (G.1, 8, .inl (fun _ => 0))), (q2, .inl (G.1, 48, .inl (fun _ => 0))), (q3, .inl (G.1, 8, .inl (fun _ => 0))), (q4, .inl (G.1, 8, .inl (fun _ => 0))), (q5, .inl (G.1, 8, .inl (fun _ => 0)))] H := hP
  have hD : va_D A [(a, .inr (1, [.ref q1, .ref q2, .ref q3, .ref q4, .ref q5, .null, .null, .null, .null, .null, .int 0, .long 0, .long 0])), (q1, .inl (G.1, 8, .inl (fun _ => 0))), (q2, .inl (G.1, 48, .inl (fun _ => 0))), (q3, .inl (G.1, 8, .inl (fun _ => 0))), (q4, .inl (G.1, 8, .inl (fun _ => 0))), (q5, .inl (G.1, 8, .inl (fun _ => 0)))] := hD
  refine lv_aload_n hx hb dX1_init_44 rfl (lv_at hl 0 rfl) ?_
  refine lv_bipush (v := 8) hx hb dX1_init_45 (by decide) ?_
  refine va_newa (atype := .int) (n := 8) (N' := 8) (a0 := (8, .inl (fun _ => 0))) hx hb (hts _ wm_3_8) rfl hK.1 hP hD hS hA (fun _ => rfl) (by decide) (by decide) (Nat.le_of_ble_eq_true rfl) (Nat.le_of_ble_eq_true rfl) (Nat.le_of_ble_eq_true rfl) dX1_init_47 (fun q6 cA H hK2 hP hD hS => ?_)
  obtain rfl := cls_I hK hK2
  clear hK2
  have hP : va_P D vwCl [(a, .inr (1, [.ref q1, .ref q2, .ref q3, .ref q4, .ref q5, .null, .null, .null, .null, .null, .int 0, .long 0, .long 0])), (q1, .inl (G.1, 8, .inl (fun _ => 0))), (q2, .inl (G.1, 48, .inl (fun _ => 0))), (q3, .inl (G.1, 8, .inl (fun _ => 0))), (q4, .inl (G.1, 8, .inl (fun _ => 0))), (q5, .inl (G.1, 8, .inl (fun _ => 0))), (q6, .inl (G.1, 8, .inl (fun _ => 0)))] H := hP
  have hD : va_D A [(a, .inr (1, [.ref q1, .ref q2, .ref q3, .ref q4, .ref q5, .null, .null, .null, .null, .null, .int 0, .long 0, .long 0])), (q1, .inl (G.1, 8, .inl (fun _ => 0))), (q2, .inl (G.1, 48, .inl (fun _ => 0))), (q3, .inl (G.1, 8, .inl (fun _ => 0))), (q4, .inl (G.1, 8, .inl (fun _ => 0))), (q5, .inl (G.1, 8, .inl (fun _ => 0))), (q6, .inl (G.1, 8, .inl (fun _ => 0)))] := hD
  refine W.widen (k := 6) (n := 88) (Nat.le_of_ble_eq_true rfl) (Nat.le_of_ble_eq_true rfl) ?_
  refine va_putF hx hb hts inlX1 tyX1 tyX1_ok nmX1 hown hK.1 hP hD hS 0 rfl rfl 5 (by decide) (hts _ wm_6_17) (fun _ h => h) rfl hin rfl rfl rfl rfl (Nat.le_of_ble_eq_true rfl) dX1_init_49 (fun H locs hP hD hS => ?_)
  have hP : va_P D vwCl [(a, .inr (1, [.ref q1, .ref q2, .ref q3, .ref q4, .ref q5, .ref q6, .null, .null, .null, .null, .int 0, .long 0, .long 0])), (q1, .inl (G.1, 8, .inl (fun _ => 0))), (q2, .inl (G.1, 48, .inl (fun _ => 0))), (q3, .inl (G.1, 8, .inl (fun _ => 0))), (q4, .inl (G.1, 8, .inl (fun _ => 0))), (q5, .inl (G.1, 8, .inl (fun _ => 0))), (q6, .inl (G.1, 8, .inl (fun _ => 0)))] H := hP
  have hD : va_D A [(a, .inr (1, [.ref q1, .ref q2, .ref q3, .ref q4, .ref q5, .ref q6, .null, .null, .null, .null, .int 0, .long 0, .long 0])), (q1, .inl (G.1, 8, .inl (fun _ => 0))), (q2, .inl (G.1, 48, .inl (fun _ => 0))), (q3, .inl (G.1, 8, .inl (fun _ => 0))), (q4, .inl (G.1, 8, .inl (fun _ => 0))), (q5, .inl (G.1, 8, .inl (fun _ => 0))), (q6, .inl (G.1, 8, .inl (fun _ => 0)))] := hD
  refine lv_aload_n hx hb dX1_init_52 rfl (lv_at hl 0 rfl) ?_
  refine lv_bipush (v := 8) hx hb dX1_init_53 (by decide) ?_
  refine va_newa (atype := .int) (n := 8) (N' := 8) (a0 := (8, .inl (fun _ => 0))) hx hb (hts _ wm_3_8) rfl hK.1 hP hD hS hA (fun _ => rfl) (by decide) (by decide) (Nat.le_of_ble_eq_true rfl) (Nat.le_of_ble_eq_true rfl) (Nat.le_of_ble_eq_true rfl) dX1_init_55 (fun q7 cA H hK2 hP hD hS => ?_)
  obtain rfl := cls_I hK hK2
  clear hK2
  have hP : va_P D vwCl [(a, .inr (1, [.ref q1, .ref q2, .ref q3, .ref q4, .ref q5, .ref q6, .null, .null, .null, .null, .int 0, .long 0, .long 0])), (q1, .inl (G.1, 8, .inl (fun _ => 0))), (q2, .inl (G.1, 48, .inl (fun _ => 0))), (q3, .inl (G.1, 8, .inl (fun _ => 0))), (q4, .inl (G.1, 8, .inl (fun _ => 0))), (q5, .inl (G.1, 8, .inl (fun _ => 0))), (q6, .inl (G.1, 8, .inl (fun _ => 0))), (q7, .inl (G.1, 8, .inl (fun _ => 0)))] H := hP
  have hD : va_D A [(a, .inr (1, [.ref q1, .ref q2, .ref q3, .ref q4, .ref q5, .ref q6, .null, .null, .null, .null, .int 0, .long 0, .long 0])), (q1, .inl (G.1, 8, .inl (fun _ => 0))), (q2, .inl (G.1, 48, .inl (fun _ => 0))), (q3, .inl (G.1, 8, .inl (fun _ => 0))), (q4, .inl (G.1, 8, .inl (fun _ => 0))), (q5, .inl (G.1, 8, .inl (fun _ => 0))), (q6, .inl (G.1, 8, .inl (fun _ => 0))), (q7, .inl (G.1, 8, .inl (fun _ => 0)))] := hD
  refine W.widen (k := 7) (n := 96) (Nat.le_of_ble_eq_true rfl) (Nat.le_of_ble_eq_true rfl) ?_
  refine va_putF hx hb hts inlX1 tyX1 tyX1_ok nmX1 hown hK.1 hP hD hS 0 rfl rfl 6 (by decide) (hts _ wm_6_18) (fun _ h => h) rfl hin rfl rfl rfl rfl (Nat.le_of_ble_eq_true rfl) dX1_init_57 (fun H locs hP hD hS => ?_)
  have hP : va_P D vwCl [(a, .inr (1, [.ref q1, .ref q2, .ref q3, .ref q4, .ref q5, .ref q6, .ref q7, .null, .null, .null, .int 0, .long 0, .long 0])), (q1, .inl (G.1, 8, .inl (fun _ => 0))), (q2, .inl (G.1, 48, .inl (fun _ => 0))), (q3, .inl (G.1, 8, .inl (fun _ => 0))), (q4, .inl (G.1, 8, .inl (fun _ => 0))), (q5, .inl (G.1, 8, .inl (fun _ => 0))), (q6, .inl (G.1, 8, .inl (fun _ => 0))), (q7, .inl (G.1, 8, .inl (fun _ => 0)))] H := hP
  have hD : va_D A [(a, .inr (1, [.ref q1, .ref q2, .ref q3, .ref q4, .ref q5, .ref q6, .ref q7, .null, .null, .null, .int 0, .long 0, .long 0])), (q1, .inl (G.1, 8, .inl (fun _ => 0))), (q2, .inl (G.1, 48, .inl (fun _ => 0))), (q3, .inl (G.1, 8, .inl (fun _ => 0))), (q4, .inl (G.1, 8, .inl (fun _ => 0))), (q5, .inl (G.1, 8, .inl (fun _ => 0))), (q6, .inl (G.1, 8, .inl (fun _ => 0))), (q7, .inl (G.1, 8, .inl (fun _ => 0)))] := hD
  refine lv_aload_n hx hb dX1_init_60 rfl (lv_at hl 0 rfl) ?_
  refine lv_bipush (v := 32) hx hb dX1_init_61 (by decide) ?_
  refine va_newa (atype := .int) (n := 32) (N' := 32) (a0 := (32, .inl (fun _ => 0))) hx hb (hts _ wm_3_8) rfl hK.1 hP hD hS hA (fun _ => rfl) (by decide) (by decide) (Nat.le_of_ble_eq_true rfl) (Nat.le_of_ble_eq_true rfl) (Nat.le_of_ble_eq_true rfl) dX1_init_63 (fun q8 cA H hK2 hP hD hS => ?_)
  obtain rfl := cls_I hK hK2
  clear hK2
  have hP : va_P D vwCl [(a, .inr (1, [.ref q1, .ref q2, .ref q3, .ref q4, .ref q5, .ref q6, .ref q7, .null, .null, .null, .int 0, .long 0, .long 0])), (q1, .inl (G.1, 8, .inl (fun _ => 0))), (q2, .inl (G.1, 48, .inl (fun _ => 0))), (q3, .inl (G.1, 8, .inl (fun _ => 0))), (q4, .inl (G.1, 8, .inl (fun _ => 0))), (q5, .inl (G.1, 8, .inl (fun _ => 0))), (q6, .inl (G.1, 8, .inl (fun _ => 0))), (q7, .inl (G.1, 8, .inl (fun _ => 0))), (q8, .inl (G.1, 32, .inl (fun _ => 0)))] H := hP
  have hD : va_D A [(a, .inr (1, [.ref q1, .ref q2, .ref q3, .ref q4, .ref q5, .ref q6, .ref q7, .null, .null, .null, .int 0, .long 0, .long 0])), (q1, .inl (G.1, 8, .inl (fun _ => 0))), (q2, .inl (G.1, 48, .inl (fun _ => 0))), (q3, .inl (G.1, 8, .inl (fun _ => 0))), (q4, .inl (G.1, 8, .inl (fun _ => 0))), (q5, .inl (G.1, 8, .inl (fun _ => 0))), (q6, .inl (G.1, 8, .inl (fun _ => 0))), (q7, .inl (G.1, 8, .inl (fun _ => 0))), (q8, .inl (G.1, 32, .inl (fun _ => 0)))] := hD
  refine W.widen (k := 8) (n := 128) (Nat.le_of_ble_eq_true rfl) (Nat.le_of_ble_eq_true rfl) ?_
  refine va_putF hx hb hts inlX1 tyX1 tyX1_ok nmX1 hown hK.1 hP hD hS 0 rfl rfl 7 (by decide) (hts _ wm_6_19) (fun _ h => h) rfl hin rfl rfl rfl rfl (Nat.le_of_ble_eq_true rfl) dX1_init_65 (fun H locs hP hD hS => ?_)
  have hP : va_P D vwCl [(a, .inr (1, [.ref q1, .ref q2, .ref q3, .ref q4, .ref q5, .ref q6, .ref q7, .ref q8, .null, .null, .int 0, .long 0, .long 0])), (q1, .inl (G.1, 8, .inl (fun _ => 0))), (q2, .inl (G.1, 48, .inl (fun _ => 0))), (q3, .inl (G.1, 8, .inl (fun _ => 0))), (q4, .inl (G.1, 8, .inl (fun _ => 0))), (q5, .inl (G.1, 8, .inl (fun _ => 0))), (q6, .inl (G.1, 8, .inl (fun _ => 0))), (q7, .inl (G.1, 8, .inl (fun _ => 0))), (q8, .inl (G.1, 32, .inl (fun _ => 0)))] H := hP
  have hD : va_D A [(a, .inr (1, [.ref q1, .ref q2, .ref q3, .ref q4, .ref q5, .ref q6, .ref q7, .ref q8, .null, .null, .int 0, .long 0, .long 0])), (q1, .inl (G.1, 8, .inl (fun _ => 0))), (q2, .inl (G.1, 48, .inl (fun _ => 0))), (q3, .inl (G.1, 8, .inl (fun _ => 0))), (q4, .inl (G.1, 8, .inl (fun _ => 0))), (q5, .inl (G.1, 8, .inl (fun _ => 0))), (q6, .inl (G.1, 8, .inl (fun _ => 0))), (q7, .inl (G.1, 8, .inl (fun _ => 0))), (q8, .inl (G.1, 32, .inl (fun _ => 0)))] := hD
  refine lv_aload_n hx hb dX1_init_68 rfl (lv_at hl 0 rfl) ?_
  refine lv_bipush (v := 32) hx hb dX1_init_69 (by decide) ?_
  refine va_newa (atype := .int) (n := 32) (N' := 32) (a0 := (32, .inl (fun _ => 0))) hx hb (hts _ wm_3_8) rfl hK.1 hP hD hS hA (fun _ => rfl) (by decide) (by decide) (Nat.le_of_ble_eq_true rfl) (Nat.le_of_ble_eq_true rfl) (Nat.le_of_ble_eq_true rfl) dX1_init_71 (fun q9 cA H hK2 hP hD hS => ?_)
  obtain rfl := cls_I hK hK2
  clear hK2
  have hP : va_P D vwCl [(a, .inr (1, [.ref q1, .ref q2, .ref q3, .ref q4, .ref q5, .ref q6, .ref q7, .ref q8, .null, .null, .int 0, .long 0, .long 0])), (q1, .inl (G.1, 8, .inl (fun _ => 0))), (q2, .inl (G.1, 48, .inl (fun _ => 0))), (q3, .inl (G.1, 8, .inl (fun _ => 0))), (q4, .inl (G.1, 8, .inl (fun _ => 0))), (q5, .inl (G.1, 8, .inl (fun _ => 0))), (q6, .inl (G.1, 8, .inl (fun _ => 0))), (q7, .inl (G.1, 8, .inl (fun _ => 0))), (q8, .inl (G.1, 32, .inl (fun _ => 0))), (q9, .inl (G.1, 32, .inl (fun _ => 0)))] H := hP
  have hD : va_D A [(a, .inr (1, [.ref q1, .ref q2, .ref q3, .ref q4, .ref q5, .ref q6, .ref q7, .ref q8, .null, .null, .int 0, .long 0, .long 0])), (q1, .inl (G.1, 8, .inl (fun _ => 0))), (q2, .inl (G.1, 48, .inl (fun _ => 0))), (q3, .inl (G.1, 8, .inl (fun _ => 0))), (q4, .inl (G.1, 8, .inl (fun _ => 0))), (q5, .inl (G.1, 8, .inl (fun _ => 0))), (q6, .inl (G.1, 8, .inl (fun _ => 0))), (q7, .inl (G.1, 8, .inl (fun _ => 0))), (q8, .inl (G.1, 32, .inl (fun _ => 0))), (q9, .inl (G.1, 32, .inl (fun _ => 0)))] := hD
  refine W.widen (k := 9) (n := 160) (Nat.le_of_ble_eq_true rfl) (Nat.le_of_ble_eq_true rfl) ?_
  refine va_putF hx hb hts inlX1 tyX1 tyX1_ok nmX1 hown hK.1 hP hD hS 0 rfl rfl 8 (by decide) (hts _ wm_6_20) (fun _ h => h) rfl hin rfl rfl rfl rfl (Nat.le_of_ble_eq_true rfl) dX1_init_73 (fun H locs hP hD hS => ?_)
  have hP : va_P D vwCl [(a, .inr (1, [.ref q1, .ref q2, .ref q3, .ref q4, .ref q5, .ref q6, .ref q7, .ref q8, .ref q9, .null, .int 0, .long 0, .long 0])), (q1, .inl (G.1, 8, .inl (fun _ => 0))), (q2, .inl (G.1, 48, .inl (fun _ => 0))), (q3, .inl (G.1, 8, .inl (fun _ => 0))), (q4, .inl (G.1, 8, .inl (fun _ => 0))), (q5, .inl (G.1, 8, .inl (fun _ => 0))), (q6, .inl (G.1, 8, .inl (fun _ => 0))), (q7, .inl (G.1, 8, .inl (fun _ => 0))), (q8, .inl (G.1, 32, .inl (fun _ => 0))), (q9, .inl (G.1, 32, .inl (fun _ => 0)))] H := hP
  have hD : va_D A [(a, .inr (1, [.ref q1, .ref q2, .ref q3, .ref q4, .ref q5, .ref q6, .ref q7, .ref q8, .ref q9, .null, .int 0, .long 0, .long 0])), (q1, .inl (G.1, 8, .inl (fun _ => 0))), (q2, .inl (G.1, 48, .inl (fun _ => 0))), (q3, .inl (G.1, 8, .inl (fun _ => 0))), (q4, .inl (G.1, 8, .inl (fun _ => 0))), (q5, .inl (G.1, 8, .inl (fun _ => 0))), (q6, .inl (G.1, 8, .inl (fun _ => 0))), (q7, .inl (G.1, 8, .inl (fun _ => 0))), (q8, .inl (G.1, 32, .inl (fun _ => 0))), (q9, .inl (G.1, 32, .inl (fun _ => 0)))] := hD
  refine lv_aload_n hx hb dX1_init_76 rfl (lv_at hl 0 rfl) ?_
  refine lv_bipush (v := 8) hx hb dX1_init_77 (by decide) ?_
  refine va_newa (atype := .long) (n := 8) (N' := 8) (a0 := (8, .inr (.inl (fun _ => 0)))) hx hb (hts _ wm_3_1) rfl hK.1 hP hD hS hA (fun _ => rfl) (by decide) (by decide) (Nat.le_of_ble_eq_true rfl) (Nat.le_of_ble_eq_true rfl) (Nat.le_of_ble_eq_true rfl) dX1_init_79 (fun q10 cA H hK2 hP hD hS => ?_)
  obtain rfl := cls_J hK hK2
  clear hK2
  have hP : va_P D vwCl [(a, .inr (1, [.ref q1, .ref q2, .ref q3, .ref q4, .ref q5, .ref q6, .ref q7, .ref q8, .ref q9, .null, .int 0, .long 0, .long 0])), (q1, .inl (G.1, 8, .inl (fun _ => 0))), (q2, .inl (G.1, 48, .inl (fun _ => 0))), (q3, .inl (G.1, 8, .inl (fun _ => 0))), (q4, .inl (G.1, 8, .inl (fun _ => 0))), (q5, .inl (G.1, 8, .inl (fun _ => 0))), (q6, .inl (G.1, 8, .inl (fun _ => 0))), (q7, .inl (G.1, 8, .inl (fun _ => 0))), (q8, .inl (G.1, 32, .inl (fun _ => 0))), (q9, .inl (G.1, 32, .inl (fun _ => 0))), (q10, .inl (G.2.1, 8, .inr (.inl (fun _ => 0))))] H := hP
  have hD : va_D A [(a, .inr (1, [.ref q1, .ref q2, .ref q3, .ref q4, .ref q5, .ref q6, .ref q7, .ref q8, .ref q9, .null, .int 0, .long 0, .long 0])), (q1, .inl (G.1, 8, .inl (fun _ => 0))), (q2, .inl (G.1, 48, .inl (fun _ => 0))), (q3, .inl (G.1, 8, .inl (fun _ => 0))), (q4, .inl (G.1, 8, .inl (fun _ => 0))), (q5, .inl (G.1, 8, .inl (fun _ => 0))), (q6, .inl (G.1, 8, .inl (fun _ => 0))), (q7, .inl (G.1, 8, .inl (fun _ => 0))), (q8, .inl (G.1, 32, .inl (fun _ => 0))), (q9, .inl (G.1, 32, .inl (fun _ => 0))), (q10, .inl (G.2.1, 8, .inr (.inl (fun _ => 0))))] := hD
  refine W.widen (k := 10) (n := 168) (Nat.le_of_ble_eq_true rfl) (Nat.le_of_ble_eq_true rfl) ?_
  refine va_putF hx hb hts inlX1 tyX1 tyX1_ok nmX1 hown hK.1 hP hD hS 0 rfl rfl 9 (by decide) (hts _ wm_6_21) (fun _ h => h) rfl hin rfl rfl rfl rfl (Nat.le_of_ble_eq_true rfl) dX1_init_81 (fun H locs hP hD hS => ?_)
  have hP : va_P D vwCl [(a, .inr (1, [.ref q1, .ref q2, .ref q3, .ref q4, .ref q5, .ref q6, .ref q7, .ref q8, .ref q9, .ref q10, .int 0, .long 0, .long 0])), (q1, .inl (G.1, 8, .inl (fun _ => 0))), (q2, .inl (G.1, 48, .inl (fun _ => 0))), (q3, .inl (G.1, 8, .inl (fun _ => 0))), (q4, .inl (G.1, 8, .inl (fun _ => 0))), (q5, .inl (G.1, 8, .inl (fun _ => 0))), (q6, .inl (G.1, 8, .inl (fun _ => 0))), (q7, .inl (G.1, 8, .inl (fun _ => 0))), (q8, .inl (G.1, 32, .inl (fun _ => 0))), (q9, .inl (G.1, 32, .inl (fun _ => 0))), (q10, .inl (G.2.1, 8, .inr (.inl (fun _ => 0))))] H := hP
  have hD : va_D A [(a, .inr (1, [.ref q1, .ref q2, .ref q3, .ref q4, .ref q5, .ref q6, .ref q7, .ref q8, .ref q9, .ref q10, .int 0, .long 0, .long 0])), (q1, .inl (G.1, 8, .inl (fun _ => 0))), (q2, .inl (G.1, 48, .inl (fun _ => 0))), (q3, .inl (G.1, 8, .inl (fun _ => 0))), (q4, .inl (G.1, 8, .inl (fun _ => 0))), (q5, .inl (G.1, 8, .inl (fun _ => 0))), (q6, .inl (G.1, 8, .inl (fun _ => 0))), (q7, .inl (G.1, 8, .inl (fun _ => 0))), (q8, .inl (G.1, 32, .inl (fun _ => 0))), (q9, .inl (G.1, 32, .inl (fun _ => 0))), (q10, .inl (G.2.1, 8, .inr (.inl (fun _ => 0))))] := hD
  have hPf : va_P D vwCl ([(a, .inr (1, [.ref q1, .ref q2, .ref q3, .ref q4, .ref q5, .ref q6, .ref q7, .ref q8, .ref q9, .ref q10, .int 0, .long 0, .long 0])), (q1, .inl (G.1, 8, .inl (fun _ => 0))), (q2, .inl (G.1, 48, .inl (fun _ => 0))), (q3, .inl (G.1, 8, .inl (fun _ => 0))), (q4, .inl (G.1, 8, .inl (fun _ => 0))), (q5, .inl (G.1, 8, .inl (fun _ => 0))), (q6, .inl (G.1, 8, .inl (fun _ => 0))), (q7, .inl (G.1, 8, .inl (fun _ => 0))), (q8, .inl (G.1, 32, .inl (fun _ => 0))), (q9, .inl (G.1, 32, .inl (fun _ => 0))), (q10, .inl (G.2.1, 8, .inr (.inl (fun _ => 0))))]) H := hP.sub [0, 1, 2, 3, 4, 5, 6, 7, 8, 9, 10] rfl
  have hDf : va_D A ([(a, .inr (1, [.ref q1, .ref q2, .ref q3, .ref q4, .ref q5, .ref q6, .ref q7, .ref q8, .ref q9, .ref q10, .int 0, .long 0, .long 0])), (q1, .inl (G.1, 8, .inl (fun _ => 0))), (q2, .inl (G.1, 48, .inl (fun _ => 0))), (q3, .inl (G.1, 8, .inl (fun _ => 0))), (q4, .inl (G.1, 8, .inl (fun _ => 0))), (q5, .inl (G.1, 8, .inl (fun _ => 0))), (q6, .inl (G.1, 8, .inl (fun _ => 0))), (q7, .inl (G.1, 8, .inl (fun _ => 0))), (q8, .inl (G.1, 32, .inl (fun _ => 0))), (q9, .inl (G.1, 32, .inl (fun _ => 0))), (q10, .inl (G.2.1, 8, .inr (.inl (fun _ => 0))))]) := hD.sub [0, 1, 2, 3, 4, 5, 6, 7, 8, 9, 10] (by decide) rfl
  exact W.vret hx hb hr (fun t ht _ => ⟨⟨fun i => [a, q1, q2, q3, q4, q5, q6, q7, q8, q9, q10].getD i 0, rfl, trivial, by rw [ht]; exact hPf, hDf⟩, hS.F ht⟩) hS.2.2 dX1_init_84 hlk
def nX0 (G : G3) (a : Nat) (x : Nat → Nat) : va_W := [(a, .inr (0, [.ref (x 1), .ref (x 4)])), ((x 1), .inr (8, [.ref (x 2), .ref (x 3), .int 0])), ((x 2), .inl (G.1, 8, .inl (fun _ => 0))), ((x 3), .inl (G.1, 8, .inl (fun _ => 0))), ((x 4), .inl (G.1, 4, .inl (fun _ => 0)))]
set_option maxHeartbeats 40000000 in
set_option maxRecDepth 100000 in
theorem kX0_init (l : Launch) (D : va_G) (G : G3) (a : Nat) {sz : Nat} : Met l yX0_init (wsU yX0_init cX0_init 1 none) ({ frames := 2, cells := 4, slots := 23, locals := 100 } : Room) (va_Pc [.ref a] (Cp D G sz [(a, .inr (0, [.null, .null]))])) (va_Qv (fun _ : Nat → Nat => True) (fun x t => va_P D vwCl (nX0 G a x) t.heap ∧ va_D (va_A [(a, .inr (0, [.null, .null]))] sz) (nX0 G a x)) (va_A [(a, .inr (0, [.null, .null]))] sz)) 4 23 (va_A [(a, .inr (0, [.null, .null]))] sz) := by
  refine Met.ofW (cc := cX0_init) (maxL := 1) (ret := none) (by decide) rfl ?_
  intro p e s m args below meth c s₁ B hml hv
  obtain ⟨rfl, hsz, hP, hK, hKN⟩ := hv
  have hts0 := atoms_spec (ws := wsU yX0_init cX0_init 1 none) B.pre
  have hts : ∀ w ∈ wsL_law, w.before _ s = true := fun w h => hts0 w (List.mem_cons_of_mem _ h)
  have hx := B.exec
  have hb := B.bytes
  have hr := B.returns
  have hlk := B.notSynchronized
  have hown : s.vm.findClass RX0 = some m.cls := findClass_of_methodNamed B.named
  have hin : meth.name = "<init>" := (name_of_methodNamed B.named B.method).1
  subst hsz
  have hD := one_D a (.inr (0, [.null, .null])) s.heap.size
  generalize hAe : va_A [(a, .inr (0, [.null, .null]))] s.heap.size = A at hD ⊢
  have hA : ∀ q : Nat, s.heap.size ≤ q → A q := fun q h => by rw [← hAe]; exact Or.inr h
  have hS : va_S A s.heap s.heap [] := va_S.rf
  have hl := lv_entry ([.ref a]) (n := 1) (Nat.le_of_ble_eq_true rfl)
  rw [lg_entry_eq]
  generalize (lg_sl ([.ref a]) ++ List.replicate (1 - (lg_sl ([.ref a])).length) Slot.unset).toArray = ls at hl ⊢
  have hl : lv_has ls 1 [(0, .ref a)] := hl
  have hP : va_P D vwCl [(a, .inr (0, [.null, .null]))] s.heap := hP
  refine lv_aload_n hx hb dX0_init_0 rfl (lv_at hl 0 rfl) ?_
  refine W.objInit hx hb hown (hts _ wm_6_5) (hts _ wm_1_11) (hts _ wm_1_12) rfl (by rw [hml]; exact hl.1) rfl dX0_init_1 (Nat.le_of_ble_eq_true rfl) (Nat.le_of_ble_eq_true rfl) ?_
  refine W.eq (g2 := F0 m 4 ls []) rfl ?_
  refine lv_aload_n hx hb dX0_init_4 rfl (lv_at hl 0 rfl) ?_
  refine va_new (ci := 8) (fs := [.null, .null, .int 0]) (C := RX8) (T := TX8) (N := 3) hx hb hts inlX8 tyX8 tyX8_ok hown (hts _ wm_6_6) (hts _ wm_2_2) (hts _ wm_2_3) hK.1 hP hD hS hA rfl dfX8 (Nat.le_of_ble_eq_true rfl) (Nat.le_of_ble_eq_true rfl) dX0_init_5 (fun q1 H hP hD hS => ?_)
  have hP : va_P D vwCl [(a, .inr (0, [.null, .null])), (q1, .inr (8, [.null, .null, .int 0]))] H := hP
  have hD : va_D A [(a, .inr (0, [.null, .null])), (q1, .inr (8, [.null, .null, .int 0]))] := hD
  refine W.widen (k := 1) (n := 3) (Nat.le_of_ble_eq_true rfl) (Nat.le_of_ble_eq_true rfl) ?_
  refine lv_dup hx hb dX0_init_8 rfl ?_
  have hPc := hP.sub (ws' := [(q1, .inr (8, [.null, .null, .int 0]))]) [1] rfl
  have hFc := va_free (wc := [(q1, .inr (8, [.null, .null, .int 0]))]) hD hS hA [1] rfl
  refine va_callv (va_runIN (host := "OrderEcho") (As := []) (rest := [.ref q1, .ref a]) ⟨hx, hb, hml, hown, hts⟩ (kX8_init l D G q1) ⟨va_cnB 0 hts (goodU wm_4_12) rfl rfl rfl (hKN.1.1) (hts _ wm_2_3) (by decide +kernel) ⟨(Nat.le_of_ble_eq_true rfl), (Nat.le_of_ble_eq_true rfl)⟩, rfl, (hts _ wm_4_11)⟩ ⟨Cp_blind, cp_of hK hKN hPc⟩ rfl rfl hl.1 rfl (lv_room (Nat.le_of_ble_eq_true rfl)) dX0_init_9 ⟨(Nat.le_of_ble_eq_true rfl), (Nat.le_of_ble_eq_true rfl)⟩) hS (fun q _ h => hFc q h) hFc (fun x1 t H1 locs ht hvm _ hB hz1 hk1 hS => ?_)
  obtain ⟨hP1, hD1⟩ := hB
  rw [ht] at hP1
  obtain ⟨hP, hD⟩ := va_join (wr := [(a, .inr (0, [.null, .null]))]) (w1 := [(q1, .inr (8, [.ref (x1 1), .ref (x1 2), .int 0])), ((x1 1), .inl (G.1, 8, .inl (fun _ => 0))), ((x1 2), .inl (G.1, 8, .inl (fun _ => 0)))]) hP hD [1] [0] rfl rfl (by decide) (by decide) hk1 hFc hP1 hD1
  generalize H1 = H at hP hS ⊢
  have hP : va_P D vwCl [(a, .inr (0, [.null, .null])), (q1, .inr (8, [.ref (x1 1), .ref (x1 2), .int 0])), ((x1 1), .inl (G.1, 8, .inl (fun _ => 0))), ((x1 2), .inl (G.1, 8, .inl (fun _ => 0)))] H := hP
  have hD : va_D A [(a, .inr (0, [.null, .null])), (q1, .inr (8, [.ref (x1 1), .ref (x1 2), .int 0])), ((x1 1), .inl (G.1, 8, .inl (fun _ => 0))), ((x1 2), .inl (G.1, 8, .inl (fun _ => 0)))] := hD
  refine W.widen (k := 3) (n := 19) (Nat.le_of_ble_eq_true rfl) (Nat.le_of_ble_eq_true rfl) ?_
  refine va_putF hx hb hts inlX0 tyX0 tyX0_ok nmX0 hown hK.1 hP hD hS 0 rfl rfl 0 (by decide) (hts _ wm_6_7) (fun _ h => h) rfl hin rfl rfl rfl rfl (Nat.le_of_ble_eq_true rfl) dX0_init_12 (fun H locs hP hD hS => ?_)
  have hP : va_P D vwCl [(a, .inr (0, [.ref q1, .null])), (q1, .inr (8, [.ref (x1 1), .ref (x1 2), .int 0])), ((x1 1), .inl (G.1, 8, .inl (fun _ => 0))), ((x1 2), .inl (G.1, 8, .inl (fun _ => 0)))] H := hP
  have hD : va_D A [(a, .inr (0, [.ref q1, .null])), (q1, .inr (8, [.ref (x1 1), .ref (x1 2), .int 0])), ((x1 1), .inl (G.1, 8, .inl (fun _ => 0))), ((x1 2), .inl (G.1, 8, .inl (fun _ => 0)))] := hD
  refine lv_aload_n hx hb dX0_init_15 rfl (lv_at hl 0 rfl) ?_
  refine lv_iconst (v := 4) hx hb dX0_init_16 (by decide) ?_
  refine va_newa (atype := .int) (n := 4) (N' := 4) (a0 := (4, .inl (fun _ => 0))) hx hb (hts _ wm_3_8) rfl hK.1 hP hD hS hA (fun _ => rfl) (by decide) (by decide) (Nat.le_of_ble_eq_true rfl) (Nat.le_of_ble_eq_true rfl) (Nat.le_of_ble_eq_true rfl) dX0_init_17 (fun q2 cA H hK2 hP hD hS => ?_)
  obtain rfl := cls_I hK hK2
  clear hK2
  have hP : va_P D vwCl [(a, .inr (0, [.ref q1, .null])), (q1, .inr (8, [.ref (x1 1), .ref (x1 2), .int 0])), ((x1 1), .inl (G.1, 8, .inl (fun _ => 0))), ((x1 2), .inl (G.1, 8, .inl (fun _ => 0))), (q2, .inl (G.1, 4, .inl (fun _ => 0)))] H := hP
  have hD : va_D A [(a, .inr (0, [.ref q1, .null])), (q1, .inr (8, [.ref (x1 1), .ref (x1 2), .int 0])), ((x1 1), .inl (G.1, 8, .inl (fun _ => 0))), ((x1 2), .inl (G.1, 8, .inl (fun _ => 0))), (q2, .inl (G.1, 4, .inl (fun _ => 0)))] := hD
  refine W.widen (k := 4) (n := 23) (Nat.le_of_ble_eq_true rfl) (Nat.le_of_ble_eq_true rfl) ?_
  refine va_putF hx hb hts inlX0 tyX0 tyX0_ok nmX0 hown hK.1 hP hD hS 0 rfl rfl 1 (by decide) (hts _ wm_6_8) (fun _ h => h) rfl hin rfl rfl rfl rfl (Nat.le_of_ble_eq_true rfl) dX0_init_19 (fun H locs hP hD hS => ?_)
  have hP : va_P D vwCl [(a, .inr (0, [.ref q1, .ref q2])), (q1, .inr (8, [.ref (x1 1), .ref (x1 2), .int 0])), ((x1 1), .inl (G.1, 8, .inl (fun _ => 0))), ((x1 2), .inl (G.1, 8, .inl (fun _ => 0))), (q2, .inl (G.1, 4, .inl (fun _ => 0)))] H := hP
  have hD : va_D A [(a, .inr (0, [.ref q1, .ref q2])), (q1, .inr (8, [.ref (x1 1), .ref (x1 2), .int 0])), ((x1 1), .inl (G.1, 8, .inl (fun _ => 0))), ((x1 2), .inl (G.1, 8, .inl (fun _ => 0))), (q2, .inl (G.1, 4, .inl (fun _ => 0)))] := hD
  have hPf : va_P D vwCl ([(a, .inr (0, [.ref q1, .ref q2])), (q1, .inr (8, [.ref (x1 1), .ref (x1 2), .int 0])), ((x1 1), .inl (G.1, 8, .inl (fun _ => 0))), ((x1 2), .inl (G.1, 8, .inl (fun _ => 0))), (q2, .inl (G.1, 4, .inl (fun _ => 0)))]) H := hP.sub [0, 1, 2, 3, 4] rfl
  have hDf : va_D A ([(a, .inr (0, [.ref q1, .ref q2])), (q1, .inr (8, [.ref (x1 1), .ref (x1 2), .int 0])), ((x1 1), .inl (G.1, 8, .inl (fun _ => 0))), ((x1 2), .inl (G.1, 8, .inl (fun _ => 0))), (q2, .inl (G.1, 4, .inl (fun _ => 0)))]) := hD.sub [0, 1, 2, 3, 4] (by decide) rfl
  exact W.vret hx hb hr (fun t ht _ => ⟨⟨fun i => [a, q1, (x1 1), (x1 2), q2].getD i 0, rfl, trivial, by rw [ht]; exact hPf, hDf⟩, hS.F ht⟩) hS.2.2 dX0_init_22 hlk
def nX4 (G : G3) (a : Nat) (x : Nat → Nat) : va_W := [(a, .inr (4, [.ref (x 1), .ref (x 2), .ref (x 3), .ref (x 4), .ref (x 5), .ref (x 6), .ref (x 7), .ref (x 8), .ref (x 9), .ref (x 10), .ref (x 11)])), ((x 1), .inr (2, [.long 1, .long 1, .int 0])), ((x 2), .inr (2, [.long 1, .long 1, .int 0])), ((x 3), .inr (2, [.long 1, .long 1, .int 0])), ((x 4), .inr (2, [.long 1, .long 1, .int 0])), ((x 5), .inr (2, [.long 0, .long 1, .int 0])), ((x 6), .inr (2, [.long 0, .long 1, .int 0])), ((x 7), .inr (2, [.long 0, .long 1, .int 0])), ((x 8), .inr (2, [.long 0, .long 1, .int 0])), ((x 9), .inr (2, [.long 0, .long 1, .int 0])), ((x 10), .inr (2, [.long 0, .long 1, .int 0])), ((x 11), .inr (2, [.long 0, .long 1, .int 0]))]
set_option maxHeartbeats 40000000 in
set_option maxRecDepth 100000 in
theorem kX4_init (l : Launch) (D : va_G) (G : G3) (a : Nat) {sz : Nat} : Met l yX4_init (wsU yX4_init cX4_init 1 none) ({ frames := 2, cells := 11, slots := 33, locals := 100 } : Room) (va_Pc [.ref a] (Cp D G sz [(a, .inr (4, [.null, .null, .null, .null, .null, .null, .null, .null, .null, .null, .null]))])) (va_Qv (fun _ : Nat → Nat => True) (fun x t => va_P D vwCl (nX4 G a x) t.heap ∧ va_D (va_A [(a, .inr (4, [.null, .null, .null, .null, .null, .null, .null, .null, .null, .null, .null]))] sz) (nX4 G a x)) (va_A [(a, .inr (4, [.null, .null, .null, .null, .null, .null, .null, .null, .null, .null, .null]))] sz)) 11 33 (va_A [(a, .inr (4, [.null, .null, .null, .null, .null, .null, .null, .null, .null, .null, .null]))] sz) := by
  refine Met.ofW (cc := cX4_init) (maxL := 1) (ret := none) (by decide) rfl ?_
  intro p e s m args below meth c s₁ B hml hv
  obtain ⟨rfl, hsz, hP, hK, hKN⟩ := hv
  have hts0 := atoms_spec (ws := wsU yX4_init cX4_init 1 none) B.pre
  have hts : ∀ w ∈ wsL_law, w.before _ s = true := fun w h => hts0 w (List.mem_cons_of_mem _ h)
  have hx := B.exec
  have hb := B.bytes
  have hr := B.returns
  have hlk := B.notSynchronized
  have hown : s.vm.findClass RX4 = some m.cls := findClass_of_methodNamed B.named
  have hin : meth.name = "<init>" := (name_of_methodNamed B.named B.method).1
  subst hsz
  have hD := one_D a (.inr (4, [.null, .null, .null, .null, .null, .null, .null, .null, .null, .null, .null])) s.heap.size
  generalize hAe : va_A [(a, .inr (4, [.null, .null, .null, .null, .null, .null, .null, .null, .null, .null, .null]))] s.heap.size = A at hD ⊢
  have hA : ∀ q : Nat, s.heap.size ≤ q → A q := fun q h => by rw [← hAe]; exact Or.inr h
  have hS : va_S A s.heap s.heap [] := va_S.rf
  have hl := lv_entry ([.ref a]) (n := 1) (Nat.le_of_ble_eq_true rfl)
  rw [lg_entry_eq]
  generalize (lg_sl ([.ref a]) ++ List.replicate (1 - (lg_sl ([.ref a])).length) Slot.unset).toArray = ls at hl ⊢
  have hl : lv_has ls 1 [(0, .ref a)] := hl
  have hP : va_P D vwCl [(a, .inr (4, [.null, .null, .null, .null, .null, .null, .null, .null, .null, .null, .null]))] s.heap := hP
  refine lv_aload_n hx hb dX4_init_0 rfl (lv_at hl 0 rfl) ?_
  refine W.objInit hx hb hown (hts _ wm_5_0) (hts _ wm_1_11) (hts _ wm_1_12) rfl (by rw [hml]; exact hl.1) rfl dX4_init_1 (Nat.le_of_ble_eq_true rfl) (Nat.le_of_ble_eq_true rfl) ?_
  refine W.eq (g2 := F0 m 4 ls []) rfl ?_
  refine lv_aload_n hx hb dX4_init_4 rfl (lv_at hl 0 rfl) ?_
  refine va_new (ci := 2) (fs := [.long 0, .long 0, .int 0]) (C := RX2) (T := TX2) (N := 3) hx hb hts inlX2 tyX2 tyX2_ok hown (hts _ wm_5_1) (hts _ wm_2_14) (hts _ wm_2_15) hK.1 hP hD hS hA rfl dfX2 (Nat.le_of_ble_eq_true rfl) (Nat.le_of_ble_eq_true rfl) dX4_init_5 (fun q1 H hP hD hS => ?_)
  have hP : va_P D vwCl [(a, .inr (4, [.null, .null, .null, .null, .null, .null, .null, .null, .null, .null, .null])), (q1, .inr (2, [.long 0, .long 0, .int 0]))] H := hP
  have hD : va_D A [(a, .inr (4, [.null, .null, .null, .null, .null, .null, .null, .null, .null, .null, .null])), (q1, .inr (2, [.long 0, .long 0, .int 0]))] := hD
  refine W.widen (k := 1) (n := 3) (Nat.le_of_ble_eq_true rfl) (Nat.le_of_ble_eq_true rfl) ?_
  refine lv_dup hx hb dX4_init_8 rfl ?_
  have hPc := hP.sub (ws' := [(q1, .inr (2, [.long 0, .long 0, .int 0]))]) [1] rfl
  have hFc := va_free (wc := [(q1, .inr (2, [.long 0, .long 0, .int 0]))]) hD hS hA [1] rfl
  refine va_callv (va_runIN (host := "OrderEcho") (As := []) (rest := [.ref q1, .ref a]) ⟨hx, hb, hml, hown, hts⟩ (kX2_init l D G q1) ⟨va_cnB 0 hts (goodU wm_5_15) rfl rfl rfl (hKN.1.2.2.2.2.2.2.2.2.2) (hts _ wm_2_15) (by decide +kernel) ⟨(Nat.le_of_ble_eq_true rfl), (Nat.le_of_ble_eq_true rfl)⟩, rfl, (hts _ wm_5_14)⟩ ⟨Cp_blind, cp_of hK hKN hPc⟩ rfl rfl hl.1 rfl (lv_room (Nat.le_of_ble_eq_true rfl)) dX4_init_9 ⟨(Nat.le_of_ble_eq_true rfl), (Nat.le_of_ble_eq_true rfl)⟩) hS (fun q _ h => hFc q h) hFc (fun x1 t H1 locs ht hvm _ hB hz1 hk1 hS => ?_)
  obtain ⟨hP1, hD1⟩ := hB
  rw [ht] at hP1
  obtain ⟨hP, hD⟩ := va_join (wr := [(a, .inr (4, [.null, .null, .null, .null, .null, .null, .null, .null, .null, .null, .null]))]) (w1 := [(q1, .inr (2, [.long 0, .long 1, .int 0]))]) hP hD [1] [0] rfl rfl (by decide) (by decide) hk1 hFc hP1 hD1
  generalize H1 = H at hP hS ⊢
  have hP : va_P D vwCl [(a, .inr (4, [.null, .null, .null, .null, .null, .null, .null, .null, .null, .null, .null])), (q1, .inr (2, [.long 0, .long 1, .int 0]))] H := hP
  have hD : va_D A [(a, .inr (4, [.null, .null, .null, .null, .null, .null, .null, .null, .null, .null, .null])), (q1, .inr (2, [.long 0, .long 1, .int 0]))] := hD
  refine W.widen (k := 1) (n := 3) (Nat.le_of_ble_eq_true rfl) (Nat.le_of_ble_eq_true rfl) ?_
  refine va_putF hx hb hts inlX4 tyX4 tyX4_ok nmX4 hown hK.1 hP hD hS 0 rfl rfl 0 (by decide) (hts _ wm_5_2) (fun _ h => h) rfl hin rfl rfl rfl rfl (Nat.le_of_ble_eq_true rfl) dX4_init_12 (fun H locs hP hD hS => ?_)
  have hP : va_P D vwCl [(a, .inr (4, [.ref q1, .null, .null, .null, .null, .null, .null, .null, .null, .null, .null])), (q1, .inr (2, [.long 0, .long 1, .int 0]))] H := hP
  have hD : va_D A [(a, .inr (4, [.ref q1, .null, .null, .null, .null, .null, .null, .null, .null, .null, .null])), (q1, .inr (2, [.long 0, .long 1, .int 0]))] := hD
  refine lv_aload_n hx hb dX4_init_15 rfl (lv_at hl 0 rfl) ?_
  refine va_new (ci := 2) (fs := [.long 0, .long 0, .int 0]) (C := RX2) (T := TX2) (N := 3) hx hb hts inlX2 tyX2 tyX2_ok hown (hts _ wm_5_1) (hts _ wm_2_14) (hts _ wm_2_15) hK.1 hP hD hS hA rfl dfX2 (Nat.le_of_ble_eq_true rfl) (Nat.le_of_ble_eq_true rfl) dX4_init_16 (fun q2 H hP hD hS => ?_)
  have hP : va_P D vwCl [(a, .inr (4, [.ref q1, .null, .null, .null, .null, .null, .null, .null, .null, .null, .null])), (q1, .inr (2, [.long 0, .long 1, .int 0])), (q2, .inr (2, [.long 0, .long 0, .int 0]))] H := hP
  have hD : va_D A [(a, .inr (4, [.ref q1, .null, .null, .null, .null, .null, .null, .null, .null, .null, .null])), (q1, .inr (2, [.long 0, .long 1, .int 0])), (q2, .inr (2, [.long 0, .long 0, .int 0]))] := hD
  refine W.widen (k := 2) (n := 6) (Nat.le_of_ble_eq_true rfl) (Nat.le_of_ble_eq_true rfl) ?_
  refine lv_dup hx hb dX4_init_19 rfl ?_
  have hPc := hP.sub (ws' := [(q2, .inr (2, [.long 0, .long 0, .int 0]))]) [2] rfl
  have hFc := va_free (wc := [(q2, .inr (2, [.long 0, .long 0, .int 0]))]) hD hS hA [2] rfl
  refine va_callv (va_runIN (host := "OrderEcho") (As := []) (rest := [.ref q2, .ref a]) ⟨hx, hb, hml, hown, hts⟩ (kX2_init l D G q2) ⟨va_cnB 0 hts (goodU wm_5_15) rfl rfl rfl (hKN.1.2.2.2.2.2.2.2.2.2) (hts _ wm_2_15) (by decide +kernel) ⟨(Nat.le_of_ble_eq_true rfl), (Nat.le_of_ble_eq_true rfl)⟩, rfl, (hts _ wm_5_14)⟩ ⟨Cp_blind, cp_of hK hKN hPc⟩ rfl rfl hl.1 rfl (lv_room (Nat.le_of_ble_eq_true rfl)) dX4_init_20 ⟨(Nat.le_of_ble_eq_true rfl), (Nat.le_of_ble_eq_true rfl)⟩) hS (fun q _ h => hFc q h) hFc (fun x2 t H1 locs ht hvm _ hB hz1 hk1 hS => ?_)
  obtain ⟨hP1, hD1⟩ := hB
  rw [ht] at hP1
  obtain ⟨hP, hD⟩ := va_join (wr := [(a, .inr (4, [.ref q1, .null, .null, .null, .null, .null, .null, .null, .null, .null, .null])), (q1, .inr (2, [.long 0, .long 1, .int 0]))]) (w1 := [(q2, .inr (2, [.long 0, .long 1, .int 0]))]) hP hD [2] [0, 1] rfl rfl (by decide) (by decide) hk1 hFc hP1 hD1
  generalize H1 = H at hP hS ⊢
  have hP : va_P D vwCl [(a, .inr (4, [.ref q1, .null, .null, .null, .null, .null, .null, .null, .null, .null, .null])), (q1, .inr (2, [.long 0, .long 1, .int 0])), (q2, .inr (2, [.long 0, .long 1, .int 0]))] H := hP
  have hD : va_D A [(a, .inr (4, [.ref q1, .null, .null, .null, .null, .null, .null, .null, .null, .null, .null])), (q1, .inr (2, [.long 0, .long 1, .int 0])), (q2, .inr (2, [.long 0, .long 1, .int 0]))] := hD
  refine W.widen (k := 2) (n := 6) (Nat.le_of_ble_eq_true rfl) (Nat.le_of_ble_eq_true rfl) ?_
  refine va_putF hx hb hts inlX4 tyX4 tyX4_ok nmX4 hown hK.1 hP hD hS 0 rfl rfl 1 (by decide) (hts _ wm_5_3) (fun _ h => h) rfl hin rfl rfl rfl rfl (Nat.le_of_ble_eq_true rfl) dX4_init_23 (fun H locs hP hD hS => ?_)
  have hP : va_P D vwCl [(a, .inr (4, [.ref q1, .ref q2, .null, .null, .null, .null, .null, .null, .null, .null, .null])), (q1, .inr (2, [.long 0, .long 1, .int 0])), (q2, .inr (2, [.long 0, .long 1, .int 0]))] H := hP
  have hD : va_D A [(a, .inr (4, [.ref q1, .ref q2, .null, .null, .null, .null, .null, .null, .null, .null, .null])), (q1, .inr (2, [.long 0, .long 1, .int 0])), (q2, .inr (2, [.long 0, .long 1, .int 0]))] := hD
  refine lv_aload_n hx hb dX4_init_26 rfl (lv_at hl 0 rfl) ?_
  refine va_new (ci := 2) (fs := [.long 0, .long 0, .int 0]) (C := RX2) (T := TX2) (N := 3) hx hb hts inlX2 tyX2 tyX2_ok hown (hts _ wm_5_1) (hts _ wm_2_14) (hts _ wm_2_15) hK.1 hP hD hS hA rfl dfX2 (Nat.le_of_ble_eq_true rfl) (Nat.le_of_ble_eq_true rfl) dX4_init_27 (fun q3 H hP hD hS => ?_)
  have hP : va_P D vwCl [(a, .inr (4, [.ref q1, .ref q2, .null, .null, .null, .null, .null, .null, .null, .null, .null])), (q1, .inr (2, [.long 0, .long 1, .int 0])), (q2, .inr (2, [.long 0, .long 1, .int 0])), (q3, .inr (2, [.long 0, .long 0, .int 0]))] H := hP
  have hD : va_D A [(a, .inr (4, [.ref q1, .ref q2, .null, .null, .null, .null, .null, .null, .null, .null, .null])), (q1, .inr (2, [.long 0, .long 1, .int 0])), (q2, .inr (2, [.long 0, .long 1, .int 0])), (q3, .inr (2, [.long 0, .long 0, .int 0]))] := hD
  refine W.widen (k := 3) (n := 9) (Nat.le_of_ble_eq_true rfl) (Nat.le_of_ble_eq_true rfl) ?_
  refine lv_dup hx hb dX4_init_30 rfl ?_
  have hPc := hP.sub (ws' := [(q3, .inr (2, [.long 0, .long 0, .int 0]))]) [3] rfl
  have hFc := va_free (wc := [(q3, .inr (2, [.long 0, .long 0, .int 0]))]) hD hS hA [3] rfl
  refine va_callv (va_runIN (host := "OrderEcho") (As := []) (rest := [.ref q3, .ref a]) ⟨hx, hb, hml, hown, hts⟩ (kX2_init l D G q3) ⟨va_cnB 0 hts (goodU wm_5_15) rfl rfl rfl (hKN.1.2.2.2.2.2.2.2.2.2) (hts _ wm_2_15) (by decide +kernel) ⟨(Nat.le_of_ble_eq_true rfl), (Nat.le_of_ble_eq_true rfl)⟩, rfl, (hts _ wm_5_14)⟩ ⟨Cp_blind, cp_of hK hKN hPc⟩ rfl rfl hl.1 rfl (lv_room (Nat.le_of_ble_eq_true rfl)) dX4_init_31 ⟨(Nat.le_of_ble_eq_true rfl), (Nat.le_of_ble_eq_true rfl)⟩) hS (fun q _ h => hFc q h) hFc (fun x3 t H1 locs ht hvm _ hB hz1 hk1 hS => ?_)
  obtain ⟨hP1, hD1⟩ := hB
  rw [ht] at hP1
  obtain ⟨hP, hD⟩ := va_join (wr := [(a, .inr (4, [.ref q1, .ref q2, .null, .null, .null, .null, .null, .null, .null, .null, .null])), (q1, .inr (2, [.long 0, .long 1, .int 0])), (q2, .inr (2, [.long 0, .long 1, .int 0]))]) (w1 := [(q3, .inr (2, [.long 0, .long 1, .int 0]))]) hP hD [3] [0, 1, 2] rfl rfl (by decide) (by decide) hk1 hFc hP1 hD1
  generalize H1 = H at hP hS ⊢
  have hP : va_P D vwCl [(a, .inr (4, [.ref q1, .ref q2, .null, .null, .null, .null, .null, .null, .null, .null, .null])), (q1, .inr (2, [.long 0, .long 1, .int 0])), (q2, .inr (2, [.long 0, .long 1, .int 0])), (q3, .inr (2, [.long 0, .long 1, .int 0]))] H := hP
  have hD : va_D A [(a, .inr (4, [.ref q1, .ref q2, .null, .null, .null, .null, .null, .null, .null, .null, .null])), (q1, .inr (2, [.long 0, .long 1, .int 0])), (q2, .inr (2, [.long 0, .long 1, .int 0])), (q3, .inr (2, [.long 0, .long 1, .int 0]))] := hD
  refine W.widen (k := 3) (n := 9) (Nat.le_of_ble_eq_true rfl) (Nat.le_of_ble_eq_true rfl) ?_
  refine va_putF hx hb hts inlX4 tyX4 tyX4_ok nmX4 hown hK.1 hP hD hS 0 rfl rfl 2 (by decide) (hts _ wm_5_4) (fun _ h => h) rfl hin rfl rfl rfl rfl (Nat.le_of_ble_eq_true rfl) dX4_init_34 (fun H locs hP hD hS => ?_)
  have hP : va_P D vwCl [(a, .inr (4, [.ref q1, .ref q2, .ref q3, .null, .null, .null, .null, .null, .null, .null, .null])), (q1, .inr (2, [.long 0, .long 1, .int 0])), (q2, .inr (2, [.long 0, .long 1, .int 0])), (q3, .inr (2, [.long 0, .long 1, .int 0]))] H := hP
  have hD : va_D A [(a, .inr (4, [.ref q1, .ref q2, .ref q3, .null, .null, .null, .null, .null, .null, .null, .null])), (q1, .inr (2, [.long 0, .long 1, .int 0])), (q2, .inr (2, [.long 0, .long 1, .int 0])), (q3, .inr (2, [.long 0, .long 1, .int 0]))] := hD
  refine lv_aload_n hx hb dX4_init_37 rfl (lv_at hl 0 rfl) ?_
  refine va_new (ci := 2) (fs := [.long 0, .long 0, .int 0]) (C := RX2) (T := TX2) (N := 3) hx hb hts inlX2 tyX2 tyX2_ok hown (hts _ wm_5_1) (hts _ wm_2_14) (hts _ wm_2_15) hK.1 hP hD hS hA rfl dfX2 (Nat.le_of_ble_eq_true rfl) (Nat.le_of_ble_eq_true rfl) dX4_init_38 (fun q4 H hP hD hS => ?_)
  have hP : va_P D vwCl [(a, .inr (4, [.ref q1, .ref q2, .ref q3, .null, .null, .null, .null, .null, .null, .null, .null])), (q1, .inr (2, [.long 0, .long 1, .int 0])), (q2, .inr (2, [.long 0, .long 1, .int 0])), (q3, .inr (2, [.long 0, .long 1, .int 0])), (q4, .inr (2, [.long 0, .long 0, .int 0]))] H := hP
  have hD : va_D A [(a, .inr (4, [.ref q1, .ref q2, .ref q3, .null, .null, .null, .null, .null, .null, .null, .null])), (q1, .inr (2, [.long 0, .long 1, .int 0])), (q2, .inr (2, [.long 0, .long 1, .int 0])), (q3, .inr (2, [.long 0, .long 1, .int 0])), (q4, .inr (2, [.long 0, .long 0, .int 0]))] := hD
  refine W.widen (k := 4) (n := 12) (Nat.le_of_ble_eq_true rfl) (Nat.le_of_ble_eq_true rfl) ?_
  refine lv_dup hx hb dX4_init_41 rfl ?_
  have hPc := hP.sub (ws' := [(q4, .inr (2, [.long 0, .long 0, .int 0]))]) [4] rfl
  have hFc := va_free (wc := [(q4, .inr (2, [.long 0, .long 0, .int 0]))]) hD hS hA [4] rfl
  refine va_callv (va_runIN (host := "OrderEcho") (As := []) (rest := [.ref q4, .ref a]) ⟨hx, hb, hml, hown, hts⟩ (kX2_init l D G q4) ⟨va_cnB 0 hts (goodU wm_5_15) rfl rfl rfl (hKN.1.2.2.2.2.2.2.2.2.2) (hts _ wm_2_15) (by decide +kernel) ⟨(Nat.le_of_ble_eq_true rfl), (Nat.le_of_ble_eq_true rfl)⟩, rfl, (hts _ wm_5_14)⟩ ⟨Cp_blind, cp_of hK hKN hPc⟩ rfl rfl hl.1 rfl (lv_room (Nat.le_of_ble_eq_true rfl)) dX4_init_42 ⟨(Nat.le_of_ble_eq_true rfl), (Nat.le_of_ble_eq_true rfl)⟩) hS (fun q _ h => hFc q h) hFc (fun x4 t H1 locs ht hvm _ hB hz1 hk1 hS => ?_)
  obtain ⟨hP1, hD1⟩ := hB
  rw [ht] at hP1
  obtain ⟨hP, hD⟩ := va_join (wr := [(a, .inr (4, [.ref q1, .ref q2, .ref q3, .null, .null, .null, .null, .null, .null, .null, .null])), (q1, .inr (2, [.long 0, .long 1, .int 0])), (q2, .inr (2, [.long 0, .long 1, .int 0])), (q3, .inr (2, [.long 0, .long 1, .int 0]))]) (w1 := [(q4, .inr (2, [.long 0, .long 1, .int 0]))]) hP hD [4] [0, 1, 2, 3] rfl rfl (by decide) (by decide) hk1 hFc hP1 hD1
  generalize H1 = H at hP hS ⊢
  have hP : va_P D vwCl [(a, .inr (4, [.ref q1, .ref q2, .ref q3, .null, .null, .null, .null, .null, .null, .null, .null])), (q1, .inr (2, [.long 0, .long 1, .int 0])), (q2, .inr (2, [.long 0, .long 1, .int 0])), (q3, .inr (2, [.long 0, .long 1, .int 0])), (q4, .inr (2, [.long 0, .long 1, .int 0]))] H := hP
  have hD : va_D A [(a, .inr (4, [.ref q1, .ref q2, .ref q3, .null, .null, .null, .null, .null, .null, .null, .null])), (q1, .inr (2, [.long 0, .long 1, .int 0])), (q2, .inr (2, [.long 0, .long 1, .int 0])), (q3, .inr (2, [.long 0, .long 1, .int 0])), (q4, .inr (2, [.long 0, .long 1, .int 0]))] := hD
  refine W.widen (k := 4) (n := 12) (Nat.le_of_ble_eq_true rfl) (Nat.le_of_ble_eq_true rfl) ?_
  refine va_putF hx hb hts inlX4 tyX4 tyX4_ok nmX4 hown hK.1 hP hD hS 0 rfl rfl 3 (by decide) (hts _ wm_5_5) (fun _ h => h) rfl hin rfl rfl rfl rfl (Nat.le_of_ble_eq_true rfl) dX4_init_45 (fun H locs hP hD hS => ?_)
  have hP : va_P D vwCl [(a, .inr (4, [.ref q1, .ref q2, .ref q3, .ref q4, .null, .null, .null, .null, .null, .null, .null])), (q1, .inr (2, [.long 0, .long 1, .int 0])), (q2, .inr (2, [.long 0, .long 1, .int 0])), (q3, .inr (2, [.long 0, .long 1, .int 0])), (q4, .inr (2, [.long 0, .long 1, .int 0]))] H := hP
  have hD : va_D A [(a, .inr (4, [.ref q1, .ref q2, .ref q3, .ref q4, .null, .null, .null, .null, .null, .null, .null])), (q1, .inr (2, [.long 0, .long 1, .int 0])), (q2, .inr (2, [.long 0, .long 1, .int 0])), (q3, .inr (2, [.long 0, .long 1, .int 0])), (q4, .inr (2, [.long 0, .long 1, .int 0]))] := hD
  refine lv_aload_n hx hb dX4_init_48 rfl (lv_at hl 0 rfl) ?_
  refine va_new (ci := 2) (fs := [.long 0, .long 0, .int 0]) (C := RX2) (T := TX2) (N := 3) hx hb hts inlX2 tyX2 tyX2_ok hown (hts _ wm_5_1) (hts _ wm_2_14) (hts _ wm_2_15) hK.1 hP hD hS hA rfl dfX2 (Nat.le_of_ble_eq_true rfl) (Nat.le_of_ble_eq_true rfl) dX4_init_49 (fun q5 H hP hD hS => ?_)
  have hP : va_P D vwCl [(a, .inr (4, [.ref q1, .ref q2, .ref q3, .ref q4, .null, .null, .null, .null, .null, .null, .null])), (q1, .inr (2, [.long 0, .long 1, .int 0])), (q2, .inr (2, [.long 0, .long 1, .int 0])), (q3, .inr (2, [.long 0, .long 1, .int 0])), (q4, .inr (2, [.long 0, .long 1, .int 0])), (q5, .inr (2, [.long 0, .long 0, .int 0]))] H := hP
  have hD : va_D A [(a, .inr (4, [.ref q1, .ref q2, .ref q3, .ref q4, .null, .null, .null, .null, .null, .null, .null])), (q1, .inr (2, [.long 0, .long 1, .int 0])), (q2, .inr (2, [.long 0, .long 1, .int 0])), (q3, .inr (2, [.long 0, .long 1, .int 0])), (q4, .inr (2, [.long 0, .long 1, .int 0])), (q5, .inr (2, [.long 0, .long 0, .int 0]))] := hD
  refine W.widen (k := 5) (n := 15) (Nat.le_of_ble_eq_true rfl) (Nat.le_of_ble_eq_true rfl) ?_
  refine lv_dup hx hb dX4_init_52 rfl ?_
  have hPc := hP.sub (ws' := [(q5, .inr (2, [.long 0, .long 0, .int 0]))]) [5] rfl
  have hFc := va_free (wc := [(q5, .inr (2, [.long 0, .long 0, .int 0]))]) hD hS hA [5] rfl
  refine va_callv (va_runIN (host := "OrderEcho") (As := []) (rest := [.ref q5, .ref a]) ⟨hx, hb, hml, hown, hts⟩ (kX2_init l D G q5) ⟨va_cnB 0 hts (goodU wm_5_15) rfl rfl rfl (hKN.1.2.2.2.2.2.2.2.2.2) (hts _ wm_2_15) (by decide +kernel) ⟨(Nat.le_of_ble_eq_true rfl), (Nat.le_of_ble_eq_true rfl)⟩, rfl, (hts _ wm_5_14)⟩ ⟨Cp_blind, cp_of hK hKN hPc⟩ rfl rfl hl.1 rfl (lv_room (Nat.le_of_ble_eq_true rfl)) dX4_init_53 ⟨(Nat.le_of_ble_eq_true rfl), (Nat.le_of_ble_eq_true rfl)⟩) hS (fun q _ h => hFc q h) hFc (fun x5 t H1 locs ht hvm _ hB hz1 hk1 hS => ?_)
  obtain ⟨hP1, hD1⟩ := hB
  rw [ht] at hP1
  obtain ⟨hP, hD⟩ := va_join (wr := [(a, .inr (4, [.ref q1, .ref q2, .ref q3, .ref q4, .null, .null, .null, .null, .null, .null, .null])), (q1, .inr (2, [.long 0, .long 1, .int 0])), (q2, .inr (2, [.long 0, .long 1, .int 0])), (q3, .inr (2, [.long 0, .long 1, .int 0])), (q4, .inr (2, [.long 0, .long 1, .int 0]))]) (w1 := [(q5, .inr (2, [.long 0, .long 1, .int 0]))]) hP hD [5] [0, 1, 2, 3, 4] rfl rfl (by decide) (by decide) hk1 hFc hP1 hD1
  generalize H1 = H at hP hS ⊢
  have hP : va_P D vwCl [(a, .inr (4, [.ref q1, .ref q2, .ref q3, .ref q4, .null, .null, .null, .null, .null, .null, .null])), (q1, .inr (2, [.long 0, .long 1, .int 0])), (q2, .inr (2, [.long 0, .long 1, .int 0])), (q3, .inr (2, [.long 0, .long 1, .int 0])), (q4, .inr (2, [.long 0, .long 1, .int 0])), (q5, .inr (2, [.long 0, .long 1, .int 0]))] H := hP
  have hD : va_D A [(a, .inr (4, [.ref q1, .ref q2, .ref q3, .ref q4, .null, .null, .null, .null, .null, .null, .null])), (q1, .inr (2, [.long 0, .long 1, .int 0])), (q2, .inr (2, [.long 0, .long 1, .int 0])), (q3, .inr (2, [.long 0, .long 1, .int 0])), (q4, .inr (2, [.long 0, .long 1, .int 0])), (q5, .inr (2, [.long 0, .long 1, .int 0]))] := hD
  refine W.widen (k := 5) (n := 15) (Nat.le_of_ble_eq_true rfl) (Nat.le_of_ble_eq_true rfl) ?_
  refine va_putF hx hb hts inlX4 tyX4 tyX4_ok nmX4 hown hK.1 hP hD hS 0 rfl rfl 4 (by decide) (hts _ wm_5_6) (fun _ h => h) rfl hin rfl rfl rfl rfl (Nat.le_of_ble_eq_true rfl) dX4_init_56 (fun H locs hP hD hS => ?_)
  have hP : va_P D vwCl [(a, .inr (4, [.ref q1, .ref q2, .ref q3, .ref q4, .ref q5, .null, .null, .null, .null, .null, .null])), (q1, .inr (2, [.long 0, .long 1, .int 0])), (q2, .inr (2, [.long 0, .long 1, .int 0])), (q3, .inr (2, [.long 0, .long 1, .int 0])), (q4, .inr (2, [.long 0, .long 1, .int 0])), (q5, .inr (2, [.long 0, .long 1, .int 0]))] H := hP
  have hD : va_D A [(a, .inr (4, [.ref q1, .ref q2, .ref q3, .ref q4, .ref q5, .null, .null, .null, .null, .null, .null])), (q1, .inr (2, [.long 0, .long 1, .int 0])), (q2, .inr (2, [.long 0, .long 1, .int 0])), (q3, .inr (2, [.long 0, .long 1, .int 0])), (q4, .inr (2, [.long 0, .long 1, .int 0])), (q5, .inr (2, [.long 0, .long 1, .int 0]))] := hD
  refine lv_aload_n hx hb dX4_init_59 rfl (lv_at hl 0 rfl) ?_
  refine va_new (ci := 2) (fs := [.long 0, .long 0, .int 0]) (C := RX2) (T := TX2) (N := 3) hx hb hts inlX2 tyX2 tyX2_ok hown (hts _ wm_5_1) (hts _ wm_2_14) (hts _ wm_2_15) hK.1 hP hD hS hA rfl dfX2 (Nat.le_of_ble_eq_true rfl) (Nat.le_of_ble_eq_true rfl) dX4_init_60 (fun q6 H hP hD hS => ?_)
  have hP : va_P D vwCl [(a, .inr (4, [.ref q1, .ref q2, .ref q3, .ref q4, .ref q5, .null, .null, .null, .null, .null, .null])), (q1, .inr (2, [.long 0, .long 1, .int 0])), (q2, .inr (2, [.long 0, .long 1, .int 0])), (q3, .inr (2, [.long 0, .long 1, .int 0])), (q4, .inr (2, [.long 0, .long 1, .int 0])), (q5, .inr (2, [.long 0, .long 1, .int 0])), (q6, .inr (2, [.long 0, .long 0, .int 0]))] H := hP
  have hD : va_D A [(a, .inr (4, [.ref q1, .ref q2, .ref q3, .ref q4, .ref q5, .null, .null, .null, .null, .null, .null])), (q1, .inr (2, [.long 0, .long 1, .int 0])), (q2, .inr (2, [.long 0, .long 1, .int 0])), (q3, .inr (2, [.long 0, .long 1, .int 0])), (q4, .inr (2, [.long 0, .long 1, .int 0])), (q5, .inr (2, [.long 0, .long 1, .int 0])), (q6, .inr (2, [.long 0, .long 0, .int 0]))] := hD
  refine W.widen (k := 6) (n := 18) (Nat.le_of_ble_eq_true rfl) (Nat.le_of_ble_eq_true rfl) ?_
  refine lv_dup hx hb dX4_init_63 rfl ?_
  have hPc := hP.sub (ws' := [(q6, .inr (2, [.long 0, .long 0, .int 0]))]) [6] rfl
  have hFc := va_free (wc := [(q6, .inr (2, [.long 0, .long 0, .int 0]))]) hD hS hA [6] rfl
  refine va_callv (va_runIN (host := "OrderEcho") (As := []) (rest := [.ref q6, .ref a]) ⟨hx, hb, hml, hown, hts⟩ (kX2_init l D G q6) ⟨va_cnB 0 hts (goodU wm_5_15) rfl rfl rfl (hKN.1.2.2.2.2.2.2.2.2.2) (hts _ wm_2_15) (by decide +kernel) ⟨(Nat.le_of_ble_eq_true rfl), (Nat.le_of_ble_eq_true rfl)⟩, rfl, (hts _ wm_5_14)⟩ ⟨Cp_blind, cp_of hK hKN hPc⟩ rfl rfl hl.1 rfl (lv_room (Nat.le_of_ble_eq_true rfl)) dX4_init_64 ⟨(Nat.le_of_ble_eq_true rfl), (Nat.le_of_ble_eq_true rfl)⟩) hS (fun q _ h => hFc q h) hFc (fun x6 t H1 locs ht hvm _ hB hz1 hk1 hS => ?_)
  obtain ⟨hP1, hD1⟩ := hB
  rw [ht] at hP1
  obtain ⟨hP, hD⟩ := va_join (wr := [(a, .inr (4, [.ref q1, .ref q2, .ref q3, .ref q4, .ref q5, .null, .null, .null, .null, .null, .null])), (q1, .inr (2, [.long 0, .long 1, .int 0])), (q2, .inr (2, [.long 0, .long 1, .int 0])), (q3, .inr (2, [.long 0, .long 1, .int 0])), (q4, .inr (2, [.long 0, .long 1, .int 0])), (q5, .inr (2, [.long 0, .long 1, .int 0]))]) (w1 := [(q6, .inr (2, [.long 0, .long 1, .int 0]))]) hP hD [6] [0, 1, 2, 3, 4, 5] rfl rfl (by decide) (by decide) hk1 hFc hP1 hD1
  generalize H1 = H at hP hS ⊢
  have hP : va_P D vwCl [(a, .inr (4, [.ref q1, .ref q2, .ref q3, .ref q4, .ref q5, .null, .null, .null, .null, .null, .null])), (q1, .inr (2, [.long 0, .long 1, .int 0])), (q2, .inr (2, [.long 0, .long 1, .int 0])), (q3, .inr (2, [.long 0, .long 1, .int 0])), (q4, .inr (2, [.long 0, .long 1, .int 0])), (q5, .inr (2, [.long 0, .long 1, .int 0])), (q6, .inr (2, [.long 0, .long 1, .int 0]))] H := hP
  have hD : va_D A [(a, .inr (4, [.ref q1, .ref q2, .ref q3, .ref q4, .ref q5, .null, .null, .null, .null, .null, .null])), (q1, .inr (2, [.long 0, .long 1, .int 0])), (q2, .inr (2, [.long 0, .long 1, .int 0])), (q3, .inr (2, [.long 0, .long 1, .int 0])), (q4, .inr (2, [.long 0, .long 1, .int 0])), (q5, .inr (2, [.long 0, .long 1, .int 0])), (q6, .inr (2, [.long 0, .long 1, .int 0]))] := hD
  refine W.widen (k := 6) (n := 18) (Nat.le_of_ble_eq_true rfl) (Nat.le_of_ble_eq_true rfl) ?_
  refine va_putF hx hb hts inlX4 tyX4 tyX4_ok nmX4 hown hK.1 hP hD hS 0 rfl rfl 5 (by decide) (hts _ wm_5_7) (fun _ h => h) rfl hin rfl rfl rfl rfl (Nat.le_of_ble_eq_true rfl) dX4_init_67 (fun H locs hP hD hS => ?_)
  have hP : va_P D vwCl [(a, .inr (4, [.ref q1, .ref q2, .ref q3, .ref q4, .ref q5, .ref q6, .null, .null, .null, .null, .null])), (q1, .inr (2, [.long 0, .long 1, .int 0])), (q2, .inr (2, [.long 0, .long 1, .int 0])), (q3, .inr (2, [.long 0, .long 1, .int 0])), (q4, .inr (2, [.long 0, .long 1, .int 0])), (q5, .inr (2, [.long 0, .long 1, .int 0])), (q6, .inr (2, [.long 0, .long 1, .int 0]))] H := hP
  have hD : va_D A [(a, .inr (4, [.ref q1, .ref q2, .ref q3, .ref q4, .ref q5, .ref q6, .null, .null, .null, .null, .null])), (q1, .inr (2, [.long 0, .long 1, .int 0])), (q2, .inr (2, [.long 0, .long 1, .int 0])), (q3, .inr (2, [.long 0, .long 1, .int 0])), (q4, .inr (2, [.long 0, .long 1, .int 0])), (q5, .inr (2, [.long 0, .long 1, .int 0])), (q6, .inr (2, [.long 0, .long 1, .int 0]))] := hD
  refine lv_aload_n hx hb dX4_init_70 rfl (lv_at hl 0 rfl) ?_
  refine va_new (ci := 2) (fs := [.long 0, .long 0, .int 0]) (C := RX2) (T := TX2) (N := 3) hx hb hts inlX2 tyX2 tyX2_ok hown (hts _ wm_5_1) (hts _ wm_2_14) (hts _ wm_2_15) hK.1 hP hD hS hA rfl dfX2 (Nat.le_of_ble_eq_true rfl) (Nat.le_of_ble_eq_true rfl) dX4_init_71 (fun q7 H hP hD hS => ?_)
  have hP : va_P D vwCl [(a, .inr (4, [.ref q1, .ref q2, .ref q3, .ref q4, .ref q5, .ref q6, .null, .null, .null, .null, .null])), (q1, .inr (2, [.long 0, .long 1, .int 0])), (q2, .inr (2, [.long 0, .long 1, .int 0])), (q3, .inr (2, [.long 0, .long 1, .int 0])), (q4, .inr (2, [.long 0, .long 1, .int 0])), (q5, .inr (2, [.long 0, .long 1, .int 0])), (q6, .inr (2, [.long 0, .long 1, .int 0])), (q7, .inr (2, [.long 0, .long 0, .int 0]))] H := hP
  have hD : va_D A [(a, .inr (4, [.ref q1, .ref q2, .ref q3, .ref q4, .ref q5, .ref q6, .null, .null, .null, .null, .null])), (q1, .inr (2, [.long 0, .long 1, .int 0])), (q2, .inr (2, [.long 0, .long 1, .int 0])), (q3, .inr (2, [.long 0, .long 1, .int 0])), (q4, .inr (2, [.long 0, .long 1, .int 0])), (q5, .inr (2, [.long 0, .long 1, .int 0])), (q6, .inr (2, [.long 0, .long 1, .int 0])), (q7, .inr (2, [.long 0, .long 0, .int 0]))] := hD
  refine W.widen (k := 7) (n := 21) (Nat.le_of_ble_eq_true rfl) (Nat.le_of_ble_eq_true rfl) ?_
  refine lv_dup hx hb dX4_init_74 rfl ?_
  have hPc := hP.sub (ws' := [(q7, .inr (2, [.long 0, .long 0, .int 0]))]) [7] rfl
  have hFc := va_free (wc := [(q7, .inr (2, [.long 0, .long 0, .int 0]))]) hD hS hA [7] rfl
  refine va_callv (va_runIN (host := "OrderEcho") (As := []) (rest := [.ref q7, .ref a]) ⟨hx, hb, hml, hown, hts⟩ (kX2_init l D G q7) ⟨va_cnB 0 hts (goodU wm_5_15) rfl rfl rfl (hKN.1.2.2.2.2.2.2.2.2.2) (hts _ wm_2_15) (by decide +kernel) ⟨(Nat.le_of_ble_eq_true rfl), (Nat.le_of_ble_eq_true rfl)⟩, rfl, (hts _ wm_5_14)⟩ ⟨Cp_blind, cp_of hK hKN hPc⟩ rfl rfl hl.1 rfl (lv_room (Nat.le_of_ble_eq_true rfl)) dX4_init_75 ⟨(Nat.le_of_ble_eq_true rfl), (Nat.le_of_ble_eq_true rfl)⟩) hS (fun q _ h => hFc q h) hFc (fun x7 t H1 locs ht hvm _ hB hz1 hk1 hS => ?_)
  obtain ⟨hP1, hD1⟩ := hB
  rw [ht] at hP1
  obtain ⟨hP, hD⟩ := va_join (wr := [(a, .inr (4, [.ref q1, .ref q2, .ref q3, .ref q4, .ref q5, .ref q6, .null, .null, .null, .null, .null])), (q1, .inr (2, [.long 0, .long 1, .int 0])), (q2, .inr (2, [.long 0, .long 1, .int 0])), (q3, .inr (2, [.long 0, .long 1, .int 0])), (q4, .inr (2, [.long 0, .long 1, .int 0])), (q5, .inr (2, [.long 0, .long 1, .int 0])), (q6, .inr (2, [.long 0, .long 1, .int 0]))]) (w1 := [(q7, .inr (2, [.long 0, .long 1, .int 0]))]) hP hD [7] [0, 1, 2, 3, 4, 5, 6] rfl rfl (by decide) (by decide) hk1 hFc hP1 hD1
  generalize H1 = H at hP hS ⊢
  have hP : va_P D vwCl [(a, .inr (4, [.ref q1, .ref q2, .ref q3, .ref q4, .ref q5, .ref q6, .null, .null, .null, .null, .null])), (q1, .inr (2, [.long 0, .long 1, .int 0])), (q2, .inr (2, [.long 0, .long 1, .int 0])), (q3, .inr (2, [.long 0, .long 1, .int 0])), (q4, .inr (2, [.long 0, .long 1, .int 0])), (q5, .inr (2, [.long 0, .long 1, .int 0])), (q6, .inr (2, [.long 0, .long 1, .int 0])), (q7, .inr (2, [.long 0, .long 1, .int 0]))] H := hP
  have hD : va_D A [(a, .inr (4, [.ref q1, .ref q2, .ref q3, .ref q4, .ref q5, .ref q6, .null, .null, .null, .null, .null])), (q1, .inr (2, [.long 0, .long 1, .int 0])), (q2, .inr (2, [.long 0, .long 1, .int 0])), (q3, .inr (2, [.long 0, .long 1, .int 0])), (q4, .inr (2, [.long 0, .long 1, .int 0])), (q5, .inr (2, [.long 0, .long 1, .int 0])), (q6, .inr (2, [.long 0, .long 1, .int 0])), (q7, .inr (2, [.long 0, .long 1, .int 0]))] := hD
  refine W.widen (k := 7) (n := 21) (Nat.le_of_ble_eq_true rfl) (Nat.le_of_ble_eq_true rfl) ?_
  refine va_putF hx hb hts inlX4 tyX4 tyX4_ok nmX4 hown hK.1 hP hD hS 0 rfl rfl 6 (by decide) (hts _ wm_5_8) (fun _ h => h) rfl hin rfl rfl rfl rfl (Nat.le_of_ble_eq_true rfl) dX4_init_78 (fun H locs hP hD hS => ?_)
  have hP : va_P D vwCl [(a, .inr (4, [.ref q1, .ref q2, .ref q3, .ref q4, .ref q5, .ref q6, .ref q7, .null, .null, .null, .null])), (q1, .inr (2, [.long 0, .long 1, .int 0])), (q2, .inr (2, [.long 0, .long 1, .int 0])), (q3, .inr (2, [.long 0, .long 1, .int 0])), (q4, .inr (2, [.long 0, .long 1, .int 0])), (q5, .inr (2, [.long 0, .long 1, .int 0])), (q6, .inr (2, [.long 0, .long 1, .int 0])), (q7, .inr (2, [.long 0, .long 1, .int 0]))] H := hP
  have hD : va_D A [(a, .inr (4, [.ref q1, .ref q2, .ref q3, .ref q4, .ref q5, .ref q6, .ref q7, .null, .null, .null, .null])), (q1, .inr (2, [.long 0, .long 1, .int 0])), (q2, .inr (2, [.long 0, .long 1, .int 0])), (q3, .inr (2, [.long 0, .long 1, .int 0])), (q4, .inr (2, [.long 0, .long 1, .int 0])), (q5, .inr (2, [.long 0, .long 1, .int 0])), (q6, .inr (2, [.long 0, .long 1, .int 0])), (q7, .inr (2, [.long 0, .long 1, .int 0]))] := hD
  refine lv_aload_n hx hb dX4_init_81 rfl (lv_at hl 0 rfl) ?_
  refine va_new (ci := 2) (fs := [.long 0, .long 0, .int 0]) (C := RX2) (T := TX2) (N := 3) hx hb hts inlX2 tyX2 tyX2_ok hown (hts _ wm_5_1) (hts _ wm_2_14) (hts _ wm_2_15) hK.1 hP hD hS hA rfl dfX2 (Nat.le_of_ble_eq_true rfl) (Nat.le_of_ble_eq_true rfl) dX4_init_82 (fun q8 H hP hD hS => ?_)
  have hP : va_P D vwCl [(a, .inr (4, [.ref q1, .ref q2, .ref q3, .ref q4, .ref q5, .ref q6, .ref q7, .null, .null, .null, .null])), (q1, .inr (2, [.long 0, .long 1, .int 0])), (q2, .inr (2, [.long 0, .long 1, .int 0])), (q3, .inr (2, [.long 0, .long 1, .int 0])), (q4, .inr (2, [.long 0, .long 1, .int 0])), (q5, .inr (2, [.long 0, .long 1, .int 0])), (q6, .inr (2, [.long 0, .long 1, .int 0])), (q7, .inr (2, [.long 0, .long 1, .int 0])), (q8, .inr (2, [.long 0, .long 0, .int 0]))] H := hP
  have hD : va_D A [(a, .inr (4, [.ref q1, .ref q2, .ref q3, .ref q4, .ref q5, .ref q6, .ref q7, .null, .null, .null, .null])), (q1, .inr (2, [.long 0, .long 1, .int 0])), (q2, .inr (2, [.long 0, .long 1, .int 0])), (q3, .inr (2, [.long 0, .long 1, .int 0])), (q4, .inr (2, [.long 0, .long 1, .int 0])), (q5, .inr (2, [.long 0, .long 1, .int 0])), (q6, .inr (2, [.long 0, .long 1, .int 0])), (q7, .inr (2, [.long 0, .long 1, .int 0])), (q8, .inr (2, [.long 0, .long 0, .int 0]))] := hD
  refine W.widen (k := 8) (n := 24) (Nat.le_of_ble_eq_true rfl) (Nat.le_of_ble_eq_true rfl) ?_
  refine lv_dup hx hb dX4_init_85 rfl ?_
  have hPc := hP.sub (ws' := [(q8, .inr (2, [.long 0, .long 0, .int 0]))]) [8] rfl
  have hFc := va_free (wc := [(q8, .inr (2, [.long 0, .long 0, .int 0]))]) hD hS hA [8] rfl
  refine va_callv (va_runIN (host := "OrderEcho") (As := []) (rest := [.ref q8, .ref a]) ⟨hx, hb, hml, hown, hts⟩ (kX2_init l D G q8) ⟨va_cnB 0 hts (goodU wm_5_15) rfl rfl rfl (hKN.1.2.2.2.2.2.2.2.2.2) (hts _ wm_2_15) (by decide +kernel) ⟨(Nat.le_of_ble_eq_true rfl), (Nat.le_of_ble_eq_true rfl)⟩, rfl, (hts _ wm_5_14)⟩ ⟨Cp_blind, cp_of hK hKN hPc⟩ rfl rfl hl.1 rfl (lv_room (Nat.le_of_ble_eq_true rfl)) dX4_init_86 ⟨(Nat.le_of_ble_eq_true rfl), (Nat.le_of_ble_eq_true rfl)⟩) hS (fun q _ h => hFc q h) hFc (fun x8 t H1 locs ht hvm _ hB hz1 hk1 hS => ?_)
  obtain ⟨hP1, hD1⟩ := hB
  rw [ht] at hP1
  obtain ⟨hP, hD⟩ := va_join (wr := [(a, .inr (4, [.ref q1, .ref q2, .ref q3, .ref q4, .ref q5, .ref q6, .ref q7, .null, .null, .null, .null])), (q1, .inr (2, [.long 0, .long 1, .int 0])), (q2, .inr (2, [.long 0, .long 1, .int 0])), (q3, .inr (2, [.long 0, .long 1, .int 0])), (q4, .inr (2, [.long 0, .long 1, .int 0])), (q5, .inr (2, [.long 0, .long 1, .int 0])), (q6, .inr (2, [.long 0, .long 1, .int 0])), (q7, .inr (2, [.long 0, .long 1, .int 0]))]) (w1 := [(q8, .inr (2, [.long 0, .long 1, .int 0]))]) hP hD [8] [0, 1, 2, 3, 4, 5, 6, 7] rfl rfl (by decide) (by decide) hk1 hFc hP1 hD1
  generalize H1 = H at hP hS ⊢
  have hP : va_P D vwCl [(a, .inr (4, [.ref q1, .ref q2, .ref q3, .ref q4, .ref q5, .ref q6, .ref q7, .null, .null, .null, .null])), (q1, .inr (2, [.long 0, .long 1, .int 0])), (q2, .inr (2, [.long 0, .long 1, .int 0])), (q3, .inr (2, [.long 0, .long 1, .int 0])), (q4, .inr (2, [.long 0, .long 1, .int 0])), (q5, .inr (2, [.long 0, .long 1, .int 0])), (q6, .inr (2, [.long 0, .long 1, .int 0])), (q7, .inr (2, [.long 0, .long 1, .int 0])), (q8, .inr (2, [.long 0, .long 1, .int 0]))] H := hP
  have hD : va_D A [(a, .inr (4, [.ref q1, .ref q2, .ref q3, .ref q4, .ref q5, .ref q6, .ref q7, .null, .null, .null, .null])), (q1, .inr (2, [.long 0, .long 1, .int 0])), (q2, .inr (2, [.long 0, .long 1, .int 0])), (q3, .inr (2, [.long 0, .long 1, .int 0])), (q4, .inr (2, [.long 0, .long 1, .int 0])), (q5, .inr (2, [.long 0, .long 1, .int 0])), (q6, .inr (2, [.long 0, .long 1, .int 0])), (q7, .inr (2, [.long 0, .long 1, .int 0])), (q8, .inr (2, [.long 0, .long 1, .int 0]))] := hD
  refine W.widen (k := 8) (n := 24) (Nat.le_of_ble_eq_true rfl) (Nat.le_of_ble_eq_true rfl) ?_
  refine va_putF hx hb hts inlX4 tyX4 tyX4_ok nmX4 hown hK.1 hP hD hS 0 rfl rfl 7 (by decide) (hts _ wm_5_9) (fun _ h => h) rfl hin rfl rfl rfl rfl (Nat.le_of_ble_eq_true rfl) dX4_init_89 (fun H locs hP hD hS => ?_)
  have hP : va_P D vwCl [(a, .inr (4, [.ref q1, .ref q2, .ref q3, .ref q4, .ref q5, .ref q6, .ref q7, .ref q8, .null, .null, .null])), (q1, .inr (2, [.long 0, .long 1, .int 0])), (q2, .inr (2, [.long 0, .long 1, .int 0])), (q3, .inr (2, [.long 0, .long 1, .int 0])), (q4, .inr (2, [.long 0, .long 1, .int 0])), (q5, .inr (2, [.long 0, .long 1, .int 0])), (q6, .inr (2, [.long 0, .long 1, .int 0])), (q7, .inr (2, [.long 0, .long 1, .int 0])), (q8, .inr (2, [.long 0, .long 1, .int 0]))] H := hP
  have hD : va_D A [(a, .inr (4, [.ref q1, .ref q2, .ref q3, .ref q4, .ref q5, .ref q6, .ref q7, .ref q8, .null, .null, .null])), (q1, .inr (2, [.long 0, .long 1, .int 0])), (q2, .inr (2, [.long 0, .long 1, .int 0])), (q3, .inr (2, [.long 0, .long 1, .int 0])), (q4, .inr (2, [.long 0, .long 1, .int 0])), (q5, .inr (2, [.long 0, .long 1, .int 0])), (q6, .inr (2, [.long 0, .long 1, .int 0])), (q7, .inr (2, [.long 0, .long 1, .int 0])), (q8, .inr (2, [.long 0, .long 1, .int 0]))] := hD
  refine lv_aload_n hx hb dX4_init_92 rfl (lv_at hl 0 rfl) ?_
  refine va_new (ci := 2) (fs := [.long 0, .long 0, .int 0]) (C := RX2) (T := TX2) (N := 3) hx hb hts inlX2 tyX2 tyX2_ok hown (hts _ wm_5_1) (hts _ wm_2_14) (hts _ wm_2_15) hK.1 hP hD hS hA rfl dfX2 (Nat.le_of_ble_eq_true rfl) (Nat.le_of_ble_eq_true rfl) dX4_init_93 (fun q9 H hP hD hS => ?_)
  have hP : va_P D vwCl [(a, .inr (4, [.ref q1, .ref q2, .ref q3, .ref q4, .ref q5, .ref q6, .ref q7, .ref q8, .null, .null, .null])), (q1, .inr (2, [.long 0, .long 1, .int 0])), (q2, .inr (2, [.long 0, .long 1, .int 0])), (q3, .inr (2, [.long 0, .long 1, .int 0])), (q4, .inr (2, [.long 0, .long 1, .int 0])), (q5, .inr (2, [.long 0, .long 1, .int 0])), (q6, .inr (2, [.long 0, .long 1, .int 0])), (q7, .inr (2, [.long 0, .long 1, .int 0])), (q8, .inr (2, [.long 0, .long 1, .int 0])), (q9, .inr (2, [.long 0, .long 0, .int 0]))] H := hP
  have hD : va_D A [(a, .inr (4, [.ref q1, .ref q2, .ref q3, .ref q4, .ref q5, .ref q6, .ref q7, .ref q8, .null, .null, .null])), (q1, .inr (2, [.long 0, .long 1, .int 0])), (q2, .inr (2, [.long 0, .long 1, .int 0])), (q3, .inr (2, [.long 0, .long 1, .int 0])), (q4, .inr (2, [.long 0, .long 1, .int 0])), (q5, .inr (2, [.long 0, .long 1, .int 0])), (q6, .inr (2, [.long 0, .long 1, .int 0])), (q7, .inr (2, [.long 0, .long 1, .int 0])), (q8, .inr (2, [.long 0, .long 1, .int 0])), (q9, .inr (2, [.long 0, .long 0, .int 0]))] := hD
  refine W.widen (k := 9) (n := 27) (Nat.le_of_ble_eq_true rfl) (Nat.le_of_ble_eq_true rfl) ?_
  refine lv_dup hx hb dX4_init_96 rfl ?_
  have hPc := hP.sub (ws' := [(q9, .inr (2, [.long 0, .long 0, .int 0]))]) [9] rfl
  have hFc := va_free (wc := [(q9, .inr (2, [.long 0, .long 0, .int 0]))]) hD hS hA [9] rfl
  refine va_callv (va_runIN (host := "OrderEcho") (As := []) (rest := [.ref q9, .ref a]) ⟨hx, hb, hml, hown, hts⟩ (kX2_init l D G q9) ⟨va_cnB 0 hts (goodU wm_5_15) rfl rfl rfl (hKN.1.2.2.2.2.2.2.2.2.2) (hts _ wm_2_15) (by decide +kernel) ⟨(Nat.le_of_ble_eq_true rfl), (Nat.le_of_ble_eq_true rfl)⟩, rfl, (hts _ wm_5_14)⟩ ⟨Cp_blind, cp_of hK hKN hPc⟩ rfl rfl hl.1 rfl (lv_room (Nat.le_of_ble_eq_true rfl)) dX4_init_97 ⟨(Nat.le_of_ble_eq_true rfl), (Nat.le_of_ble_eq_true rfl)⟩) hS (fun q _ h => hFc q h) hFc (fun x9 t H1 locs ht hvm _ hB hz1 hk1 hS => ?_)
  obtain ⟨hP1, hD1⟩ := hB
  rw [ht] at hP1
  obtain ⟨hP, hD⟩ := va_join (wr := [(a, .inr (4, [.ref q1, .ref q2, .ref q3, .ref q4, .ref q5, .ref q6, .ref q7, .ref q8, .null, .null, .null])), (q1, .inr (2, [.long 0, .long 1, .int 0])), (q2, .inr (2, [.long 0, .long 1, .int 0])), (q3, .inr (2, [.long 0, .long 1, .int 0])), (q4, .inr (2, [.long 0, .long 1, .int 0])), (q5, .inr (2, [.long 0, .long 1, .int 0])), (q6, .inr (2, [.long 0, .long 1, .int 0])), (q7, .inr (2, [.long 0, .long 1, .int 0])), (q8, .inr (2, [.long 0, .long 1, .int 0]))]) (w1 := [(q9, .inr (2, [.long 0, .long 1, .int 0]))]) hP hD [9] [0, 1, 2, 3, 4, 5, 6, 7, 8] rfl rfl (by decide) (by decide) hk1 hFc hP1 hD1
  generalize H1 = H at hP hS ⊢
  have hP : va_P D vwCl [(a, .inr (4, [.ref q1, .ref q2, .ref q3, .ref q4, .ref q5, .ref q6, .ref q7, .ref q8, .null, .null, .null])), (q1, .inr (2, [.long 0, .long 1, .int 0])), (q2, .inr (2, [.long 0, .long 1, .int 0])), (q3, .inr (2, [.long 0, .long 1, .int 0])), (q4, .inr (2, [.long 0, .long 1, .int 0])), (q5, .inr (2, [.long 0, .long 1, .int 0])), (q6, .inr (2, [.long 0, .long 1, .int 0])), (q7, .inr (2, [.long 0, .long 1, .int 0])), (q8, .inr (2, [.long 0, .long 1, .int 0])), (q9, .inr (2, [.long 0, .long 1, .int 0]))] H := hP
  have hD : va_D A [(a, .inr (4, [.ref q1, .ref q2, .ref q3, .ref q4, .ref q5, .ref q6, .ref q7, .ref q8, .null, .null, .null])), (q1, .inr (2, [.long 0, .long 1, .int 0])), (q2, .inr (2, [.long 0, .long 1, .int 0])), (q3, .inr (2, [.long 0, .long 1, .int 0])), (q4, .inr (2, [.long 0, .long 1, .int 0])), (q5, .inr (2, [.long 0, .long 1, .int 0])), (q6, .inr (2, [.long 0, .long 1, .int 0])), (q7, .inr (2, [.long 0, .long 1, .int 0])), (q8, .inr (2, [.long 0, .long 1, .int 0])), (q9, .inr (2, [.long 0, .long 1, .int 0]))] := hD
  refine W.widen (k := 9) (n := 27) (Nat.le_of_ble_eq_true rfl) (Nat.le_of_ble_eq_true rfl) ?_
  refine va_putF hx hb hts inlX4 tyX4 tyX4_ok nmX4 hown hK.1 hP hD hS 0 rfl rfl 8 (by decide) (hts _ wm_5_10) (fun _ h => h) rfl hin rfl rfl rfl rfl (Nat.le_of_ble_eq_true rfl) dX4_init_100 (fun H locs hP hD hS => ?_)
  have hP : va_P D vwCl [(a, .inr (4, [.ref q1, .ref q2, .ref q3, .ref q4, .ref q5, .ref q6, .ref q7, .ref q8, .ref q9, .null, .null])), (q1, .inr (2, [.long 0, .long 1, .int 0])), (q2, .inr (2, [.long 0, .long 1, .int 0])), (q3, .inr (2, [.long 0, .long 1, .int 0])), (q4, .inr (2, [.long 0, .long 1, .int 0])), (q5, .inr (2, [.long 0, .long 1, .int 0])), (q6, .inr (2, [.long 0, .long 1, .int 0])), (q7, .inr (2, [.long 0, .long 1, .int 0])), (q8, .inr (2, [.long 0, .long 1, .int 0])), (q9, .inr (2, [.long 0, .long 1, .int 0]))] H := hP
  have hD : va_D A [(a, .inr (4, [.ref q1, .ref q2, .ref q3, .ref q4, .ref q5, .ref q6, .ref q7, .ref q8, .ref q9, .null, .null])), (q1, .inr (2, [.long 0, .long 1, .int 0])), (q2, .inr (2, [.long 0, .long 1, .int 0])), (q3, .inr (2, [.long 0, .long 1, .int 0])), (q4, .inr (2, [.long 0, .long 1, .int 0])), (q5, .inr (2, [.long 0, .long 1, .int 0])), (q6, .inr (2, [.long 0, .long 1, .int 0])), (q7, .inr (2, [.long 0, .long 1, .int 0])), (q8, .inr (2, [.long 0, .long 1, .int 0])), (q9, .inr (2, [.long 0, .long 1, .int 0]))] := hD
  refine lv_aload_n hx hb dX4_init_103 rfl (lv_at hl 0 rfl) ?_
  refine va_new (ci := 2) (fs := [.long 0, .long 0, .int 0]) (C := RX2) (T := TX2) (N := 3) hx hb hts inlX2 tyX2 tyX2_ok hown (hts _ wm_5_1) (hts _ wm_2_14) (hts _ wm_2_15) hK.1 hP hD hS hA rfl dfX2 (Nat.le_of_ble_eq_true rfl) (Nat.le_of_ble_eq_true rfl) dX4_init_104 (fun q10 H hP hD hS => ?_)
  have hP : va_P D vwCl [(a, .inr (4, [.ref q1, .ref q2, .ref q3, .ref q4, .ref q5, .ref q6, .ref q7, .ref q8, .ref q9, .null, .null])), (q1, .inr (2, [.long 0, .long 1, .int 0])), (q2, .inr (2, [.long 0, .long 1, .int 0])), (q3, .inr (2, [.long 0, .long 1, .int 0])), (q4, .inr (2, [.long 0, .long 1, .int 0])), (q5, .inr (2, [.long 0, .long 1, .int 0])), (q6, .inr (2, [.long 0, .long 1, .int 0])), (q7, .inr (2, [.long 0, .long 1, .int 0])), (q8, .inr (2, [.long 0, .long 1, .int 0])), (q9, .inr (2, [.long 0, .long 1, .int 0])), (q10, .inr (2, [.long 0, .long 0, .int 0]))] H := hP
  have hD : va_D A [(a, .inr (4, [.ref q1, .ref q2, .ref q3, .ref q4, .ref q5, .ref q6, .ref q7, .ref q8, .ref q9, .null, .null])), (q1, .inr (2, [.long 0, .long 1, .int 0])), (q2, .inr (2, [.long 0, .long 1, .int 0])), (q3, .inr (2, [.long 0, .long 1, .int 0])), (q4, .inr (2, [.long 0, .long 1, .int 0])), (q5, .inr (2, [.long 0, .long 1, .int 0])), (q6, .inr (2, [.long 0, .long 1, .int 0])), (q7, .inr (2, [.long 0, .long 1, .int 0])), (q8, .inr (2, [.long 0, .long 1, .int 0])), (q9, .inr (2, [.long 0, .long 1, .int 0])), (q10, .inr (2, [.long 0, .long 0, .int 0]))] := hD
  refine W.widen (k := 10) (n := 30) (Nat.le_of_ble_eq_true rfl) (Nat.le_of_ble_eq_true rfl) ?_
  refine lv_dup hx hb dX4_init_107 rfl ?_
  have hPc := hP.sub (ws' := [(q10, .inr (2, [.long 0, .long 0, .int 0]))]) [10] rfl
  have hFc := va_free (wc := [(q10, .inr (2, [.long 0, .long 0, .int 0]))]) hD hS hA [10] rfl
  refine va_callv (va_runIN (host := "OrderEcho") (As := []) (rest := [.ref q10, .ref a]) ⟨hx, hb, hml, hown, hts⟩ (kX2_init l D G q10) ⟨va_cnB 0 hts (goodU wm_5_15) rfl rfl rfl (hKN.1.2.2.2.2.2.2.2.2.2) (hts _ wm_2_15) (by decide +kernel) ⟨(Nat.le_of_ble_eq_true rfl), (Nat.le_of_ble_eq_true rfl)⟩, rfl, (hts _ wm_5_14)⟩ ⟨Cp_blind, cp_of hK hKN hPc⟩ rfl rfl hl.1 rfl (lv_room (Nat.le_of_ble_eq_true rfl)) dX4_init_108 ⟨(Nat.le_of_ble_eq_true rfl), (Nat.le_of_ble_eq_true rfl)⟩) hS (fun q _ h => hFc q h) hFc (fun x10 t H1 locs ht hvm _ hB hz1 hk1 hS => ?_)
  obtain ⟨hP1, hD1⟩ := hB
  rw [ht] at hP1
  obtain ⟨hP, hD⟩ := va_join (wr := [(a, .inr (4, [.ref q1, .ref q2, .ref q3, .ref q4, .ref q5, .ref q6, .ref q7, .ref q8, .ref q9, .null, .null])), (q1, .inr (2, [.long 0, .long 1, .int 0])), (q2, .inr (2, [.long 0, .long 1, .int 0])), (q3, .inr (2, [.long 0, .long 1, .int 0])), (q4, .inr (2, [.long 0, .long 1, .int 0])), (q5, .inr (2, [.long 0, .long 1, .int 0])), (q6, .inr (2, [.long 0, .long 1, .int 0])), (q7, .inr (2, [.long 0, .long 1, .int 0])), (q8, .inr (2, [.long 0, .long 1, .int 0])), (q9, .inr (2, [.long 0, .long 1, .int 0]))]) (w1 := [(q10, .inr (2, [.long 0, .long 1, .int 0]))]) hP hD [10] [0, 1, 2, 3, 4, 5, 6, 7, 8, 9] rfl rfl (by decide) (by decide) hk1 hFc hP1 hD1
  generalize H1 = H at hP hS ⊢
  have hP : va_P D vwCl [(a, .inr (4, [.ref q1, .ref q2, .ref q3, .ref q4, .ref q5, .ref q6, .ref q7, .ref q8, .ref q9, .null, .null])), (q1, .inr (2, [.long 0, .long 1, .int 0])), (q2, .inr (2, [.long 0, .long 1, .int 0])), (q3, .inr (2, [.long 0, .long 1, .int 0])), (q4, .inr (2, [.long 0, .long 1, .int 0])), (q5, .inr (2, [.long 0, .long 1, .int 0])), (q6, .inr (2, [.long 0, .long 1, .int 0])), (q7, .inr (2, [.long 0, .long 1, .int 0])), (q8, .inr (2, [.long 0, .long 1, .int 0])), (q9, .inr (2, [.long 0, .long 1, .int 0])), (q10, .inr (2, [.long 0, .long 1, .int 0]))] H := hP
  have hD : va_D A [(a, .inr (4, [.ref q1, .ref q2, .ref q3, .ref q4, .ref q5, .ref q6, .ref q7, .ref q8, .ref q9, .null, .null])), (q1, .inr (2, [.long 0, .long 1, .int 0])), (q2, .inr (2, [.long 0, .long 1, .int 0])), (q3, .inr (2, [.long 0, .long 1, .int 0])), (q4, .inr (2, [.long 0, .long 1, .int 0])), (q5, .inr (2, [.long 0, .long 1, .int 0])), (q6, .inr (2, [.long 0, .long 1, .int 0])), (q7, .inr (2, [.long 0, .long 1, .int 0])), (q8, .inr (2, [.long 0, .long 1, .int 0])), (q9, .inr (2, [.long 0, .long 1, .int 0])), (q10, .inr (2, [.long 0, .long 1, .int 0]))] := hD
  refine W.widen (k := 10) (n := 30) (Nat.le_of_ble_eq_true rfl) (Nat.le_of_ble_eq_true rfl) ?_
  refine va_putF hx hb hts inlX4 tyX4 tyX4_ok nmX4 hown hK.1 hP hD hS 0 rfl rfl 9 (by decide) (hts _ wm_5_11) (fun _ h => h) rfl hin rfl rfl rfl rfl (Nat.le_of_ble_eq_true rfl) dX4_init_111 (fun H locs hP hD hS => ?_)
  have hP : va_P D vwCl [(a, .inr (4, [.ref q1, .ref q2, .ref q3, .ref q4, .ref q5, .ref q6, .ref q7, .ref q8, .ref q9, .ref q10, .null])), (q1, .inr (2, [.long 0, .long 1, .int 0])), (q2, .inr (2, [.long 0, .long 1, .int 0])), (q3, .inr (2, [.long 0, .long 1, .int 0])), (q4, .inr (2, [.long 0, .long 1, .int 0])), (q5, .inr (2, [.long 0, .long 1, .int 0])), (q6, .inr (2, [.long 0, .long 1, .int 0])), (q7, .inr (2, [.long 0, .long 1, .int 0])), (q8, .inr (2, [.long 0, .long 1, .int 0])), (q9, .inr (2, [.long 0, .long 1, .int 0])), (q10, .inr (2, [.long 0, .long 1, .int 0]))] H := hP
  have hD : va_D A [(a, .inr (4, [.ref q1, .ref q2, .ref q3, .ref q4, .ref q5, .ref q6, .ref q7, .ref q8, .ref q9, .ref q10, .null])), (q1, .inr (2, [.long 0, .long 1, .int 0])), (q2, .inr (2, [.long 0, .long 1, .int 0])), (q3, .inr (2, [.long 0, .long 1, .int 0])), (q4, .inr (2, [.long 0, .long 1, .int 0])), (q5, .inr (2, [.long 0, .long 1, .int 0])), (q6, .inr (2, [.long 0, .long 1, .int 0])), (q7, .inr (2, [.long 0, .long 1, .int 0])), (q8, .inr (2, [.long 0, .long 1, .int 0])), (q9, .inr (2, [.long 0, .long 1, .int 0])), (q10, .inr (2, [.long 0, .long 1, .int 0]))] := hD
  refine lv_aload_n hx hb dX4_init_114 rfl (lv_at hl 0 rfl) ?_
  refine va_new (ci := 2) (fs := [.long 0, .long 0, .int 0]) (C := RX2) (T := TX2) (N := 3) hx hb hts inlX2 tyX2 tyX2_ok hown (hts _ wm_5_1) (hts _ wm_2_14) (hts _ wm_2_15) hK.1 hP hD hS hA rfl dfX2 (Nat.le_of_ble_eq_true rfl) (Nat.le_of_ble_eq_true rfl) dX4_init_115 (fun q11 H hP hD hS => ?_)
  have hP : va_P D vwCl [(a, .inr (4, [.ref q1, .ref q2, .ref q3, .ref q4, .ref q5, .ref q6, .ref q7, .ref q8, .ref q9, .ref q10, .null])), (q1, .inr (2, [.long 0, .long 1, .int 0])), (q2, .inr (2, [.long 0, .long 1, .int 0])), (q3, .inr (2, [.long 0, .long 1, .int 0])), (q4, .inr (2, [.long 0, .long 1, .int 0])), (q5, .inr (2, [.long 0, .long 1, .int 0])), (q6, .inr (2, [.long 0, .long 1, .int 0])), (q7, .inr (2, [.long 0, .long 1, .int 0])), (q8, .inr (2, [.long 0, .long 1, .int 0])), (q9, .inr (2, [.long 0, .long 1, .int 0])), (q10, .inr (2, [.long 0, .long 1, .int 0])), (q11, .inr (2, [.long 0, .long 0, .int 0]))] H := hP
  have hD : va_D A [(a, .inr (4, [.ref q1, .ref q2, .ref q3, .ref q4, .ref q5, .ref q6, .ref q7, .ref q8, .ref q9, .ref q10, .null])), (q1, .inr (2, [.long 0, .long 1, .int 0])), (q2, .inr (2, [.long 0, .long 1, .int 0])), (q3, .inr (2, [.long 0, .long 1, .int 0])), (q4, .inr (2, [.long 0, .long 1, .int 0])), (q5, .inr (2, [.long 0, .long 1, .int 0])), (q6, .inr (2, [.long 0, .long 1, .int 0])), (q7, .inr (2, [.long 0, .long 1, .int 0])), (q8, .inr (2, [.long 0, .long 1, .int 0])), (q9, .inr (2, [.long 0, .long 1, .int 0])), (q10, .inr (2, [.long 0, .long 1, .int 0])), (q11, .inr (2, [.long 0, .long 0, .int 0]))] := hD
  refine W.widen (k := 11) (n := 33) (Nat.le_of_ble_eq_true rfl) (Nat.le_of_ble_eq_true rfl) ?_
  refine lv_dup hx hb dX4_init_118 rfl ?_
  have hPc := hP.sub (ws' := [(q11, .inr (2, [.long 0, .long 0, .int 0]))]) [11] rfl
  have hFc := va_free (wc := [(q11, .inr (2, [.long 0, .long 0, .int 0]))]) hD hS hA [11] rfl
  refine va_callv (va_runIN (host := "OrderEcho") (As := []) (rest := [.ref q11, .ref a]) ⟨hx, hb, hml, hown, hts⟩ (kX2_init l D G q11) ⟨va_cnB 0 hts (goodU wm_5_15) rfl rfl rfl (hKN.1.2.2.2.2.2.2.2.2.2) (hts _ wm_2_15) (by decide +kernel) ⟨(Nat.le_of_ble_eq_true rfl), (Nat.le_of_ble_eq_true rfl)⟩, rfl, (hts _ wm_5_14)⟩ ⟨Cp_blind, cp_of hK hKN hPc⟩ rfl rfl hl.1 rfl (lv_room (Nat.le_of_ble_eq_true rfl)) dX4_init_119 ⟨(Nat.le_of_ble_eq_true rfl), (Nat.le_of_ble_eq_true rfl)⟩) hS (fun q _ h => hFc q h) hFc (fun x11 t H1 locs ht hvm _ hB hz1 hk1 hS => ?_)
  obtain ⟨hP1, hD1⟩ := hB
  rw [ht] at hP1
  obtain ⟨hP, hD⟩ := va_join (wr := [(a, .inr (4, [.ref q1, .ref q2, .ref q3, .ref q4, .ref q5, .ref q6, .ref q7, .ref q8, .ref q9, .ref q10, .null])), (q1, .inr (2, [.long 0, .long 1, .int 0])), (q2, .inr (2, [.long 0, .long 1, .int 0])), (q3, .inr (2, [.long 0, .long 1, .int 0])), (q4, .inr (2, [.long 0, .long 1, .int 0])), (q5, .inr (2, [.long 0, .long 1, .int 0])), (q6, .inr (2, [.long 0, .long 1, .int 0])), (q7, .inr (2, [.long 0, .long 1, .int 0])), (q8, .inr (2, [.long 0, .long 1, .int 0])), (q9, .inr (2, [.long 0, .long 1, .int 0])), (q10, .inr (2, [.long 0, .long 1, .int 0]))]) (w1 := [(q11, .inr (2, [.long 0, .long 1, .int 0]))]) hP hD [11] [0, 1, 2, 3, 4, 5, 6, 7, 8, 9, 10] rfl rfl (by decide) (by decide) hk1 hFc hP1 hD1
  generalize H1 = H at hP hS ⊢
  have hP : va_P D vwCl [(a, .inr (4, [.ref q1, .ref q2, .ref q3, .ref q4, .ref q5, .ref q6, .ref q7, .ref q8, .ref q9, .ref q10, .null])), (q1, .inr (2, [.long 0, .long 1, .int 0])), (q2, .inr (2, [.long 0, .long 1, .int 0])), (q3, .inr (2, [.long 0, .long 1, .int 0])), (q4, .inr (2, [.long 0, .long 1, .int 0])), (q5, .inr (2, [.long 0, .long 1, .int 0])), (q6, .inr (2, [.long 0, .long 1, .int 0])), (q7, .inr (2, [.long 0, .long 1, .int 0])), (q8, .inr (2, [.long 0, .long 1, .int 0])), (q9, .inr (2, [.long 0, .long 1, .int 0])), (q10, .inr (2, [.long 0, .long 1, .int 0])), (q11, .inr (2, [.long 0, .long 1, .int 0]))] H := hP
  have hD : va_D A [(a, .inr (4, [.ref q1, .ref q2, .ref q3, .ref q4, .ref q5, .ref q6, .ref q7, .ref q8, .ref q9, .ref q10, .null])), (q1, .inr (2, [.long 0, .long 1, .int 0])), (q2, .inr (2, [.long 0, .long 1, .int 0])), (q3, .inr (2, [.long 0, .long 1, .int 0])), (q4, .inr (2, [.long 0, .long 1, .int 0])), (q5, .inr (2, [.long 0, .long 1, .int 0])), (q6, .inr (2, [.long 0, .long 1, .int 0])), (q7, .inr (2, [.long 0, .long 1, .int 0])), (q8, .inr (2, [.long 0, .long 1, .int 0])), (q9, .inr (2, [.long 0, .long 1, .int 0])), (q10, .inr (2, [.long 0, .long 1, .int 0])), (q11, .inr (2, [.long 0, .long 1, .int 0]))] := hD
  refine W.widen (k := 11) (n := 33) (Nat.le_of_ble_eq_true rfl) (Nat.le_of_ble_eq_true rfl) ?_
  refine va_putF hx hb hts inlX4 tyX4 tyX4_ok nmX4 hown hK.1 hP hD hS 0 rfl rfl 10 (by decide) (hts _ wm_5_12) (fun _ h => h) rfl hin rfl rfl rfl rfl (Nat.le_of_ble_eq_true rfl) dX4_init_122 (fun H locs hP hD hS => ?_)
  have hP : va_P D vwCl [(a, .inr (4, [.ref q1, .ref q2, .ref q3, .ref q4, .ref q5, .ref q6, .ref q7, .ref q8, .ref q9, .ref q10, .ref q11])), (q1, .inr (2, [.long 0, .long 1, .int 0])), (q2, .inr (2, [.long 0, .long 1, .int 0])), (q3, .inr (2, [.long 0, .long 1, .int 0])), (q4, .inr (2, [.long 0, .long 1, .int 0])), (q5, .inr (2, [.long 0, .long 1, .int 0])), (q6, .inr (2, [.long 0, .long 1, .int 0])), (q7, .inr (2, [.long 0, .long 1, .int 0])), (q8, .inr (2, [.long 0, .long 1, .int 0])), (q9, .inr (2, [.long 0, .long 1, .int 0])), (q10, .inr (2, [.long 0, .long 1, .int 0])), (q11, .inr (2, [.long 0, .long 1, .int 0]))] H := hP
  have hD : va_D A [(a, .inr (4, [.ref q1, .ref q2, .ref q3, .ref q4, .ref q5, .ref q6, .ref q7, .ref q8, .ref q9, .ref q10, .ref q11])), (q1, .inr (2, [.long 0, .long 1, .int 0])), (q2, .inr (2, [.long 0, .long 1, .int 0])), (q3, .inr (2, [.long 0, .long 1, .int 0])), (q4, .inr (2, [.long 0, .long 1, .int 0])), (q5, .inr (2, [.long 0, .long 1, .int 0])), (q6, .inr (2, [.long 0, .long 1, .int 0])), (q7, .inr (2, [.long 0, .long 1, .int 0])), (q8, .inr (2, [.long 0, .long 1, .int 0])), (q9, .inr (2, [.long 0, .long 1, .int 0])), (q10, .inr (2, [.long 0, .long 1, .int 0])), (q11, .inr (2, [.long 0, .long 1, .int 0]))] := hD
  refine lv_aload_n hx hb dX4_init_125 rfl (lv_at hl 0 rfl) ?_
  refine va_get hx hb hts inlX4 hown hK.1 hP 0 rfl rfl 0 (by decide) (hts _ wm_5_2) (fun _ h => h) rfl dX4_init_126 ?_
  refine lv_lconst (v := 1) hx hb dX4_init_129 (by decide) ?_
  refine va_put hx hb hts inlX2 tyX2 tyX2_ok nmX2 hown hK.1 hP hD hS 1 rfl rfl 0 (by decide) (hts _ wm_5_13) (fun _ h => h) rfl rfl rfl rfl (Nat.le_of_ble_eq_true rfl) dX4_init_130 (fun H locs hP hD hS => ?_)
  have hP : va_P D vwCl [(a, .inr (4, [.ref q1, .ref q2, .ref q3, .ref q4, .ref q5, .ref q6, .ref q7, .ref q8, .ref q9, .ref q10, .ref q11])), (q1, .inr (2, [.long 1, .long 1, .int 0])), (q2, .inr (2, [.long 0, .long 1, .int 0])), (q3, .inr (2, [.long 0, .long 1, .int 0])), (q4, .inr (2, [.long 0, .long 1, .int 0])), (q5, .inr (2, [.long 0, .long 1, .int 0])), (q6, .inr (2, [.long 0, .long 1, .int 0])), (q7, .inr (2, [.long 0, .long 1, .int 0])), (q8, .inr (2, [.long 0, .long 1, .int 0])), (q9, .inr (2, [.long 0, .long 1, .int 0])), (q10, .inr (2, [.long 0, .long 1, .int 0])), (q11, .inr (2, [.long 0, .long 1, .int 0]))] H := hP
  have hD : va_D A [(a, .inr (4, [.ref q1, .ref q2, .ref q3, .ref q4, .ref q5, .ref q6, .ref q7, .ref q8, .ref q9, .ref q10, .ref q11])), (q1, .inr (2, [.long 1, .long 1, .int 0])), (q2, .inr (2, [.long 0, .long 1, .int 0])), (q3, .inr (2, [.long 0, .long 1, .int 0])), (q4, .inr (2, [.long 0, .long 1, .int 0])), (q5, .inr (2, [.long 0, .long 1, .int 0])), (q6, .inr (2, [.long 0, .long 1, .int 0])), (q7, .inr (2, [.long 0, .long 1, .int 0])), (q8, .inr (2, [.long 0, .long 1, .int 0])), (q9, .inr (2, [.long 0, .long 1, .int 0])), (q10, .inr (2, [.long 0, .long 1, .int 0])), (q11, .inr (2, [.long 0, .long 1, .int 0]))] := hD
  refine lv_aload_n hx hb dX4_init_133 rfl (lv_at hl 0 rfl) ?_
  refine va_get hx hb hts inlX4 hown hK.1 hP 0 rfl rfl 1 (by decide) (hts _ wm_5_3) (fun _ h => h) rfl dX4_init_134 ?_
  refine lv_lconst (v := 1) hx hb dX4_init_137 (by decide) ?_
  refine va_put hx hb hts inlX2 tyX2 tyX2_ok nmX2 hown hK.1 hP hD hS 2 rfl rfl 0 (by decide) (hts _ wm_5_13) (fun _ h => h) rfl rfl rfl rfl (Nat.le_of_ble_eq_true rfl) dX4_init_138 (fun H locs hP hD hS => ?_)
  have hP : va_P D vwCl [(a, .inr (4, [.ref q1, .ref q2, .ref q3, .ref q4, .ref q5, .ref q6, .ref q7, .ref q8, .ref q9, .ref q10, .ref q11])), (q1, .inr (2, [.long 1, .long 1, .int 0])), (q2, .inr (2, [.long 1, .long 1, .int 0])), (q3, .inr (2, [.long 0, .long 1, .int 0])), (q4, .inr (2, [.long 0, .long 1, .int 0])), (q5, .inr (2, [.long 0, .long 1, .int 0])), (q6, .inr (2, [.long 0, .long 1, .int 0])), (q7, .inr (2, [.long 0, .long 1, .int 0])), (q8, .inr (2, [.long 0, .long 1, .int 0])), (q9, .inr (2, [.long 0, .long 1, .int 0])), (q10, .inr (2, [.long 0, .long 1, .int 0])), (q11, .inr (2, [.long 0, .long 1, .int 0]))] H := hP
  have hD : va_D A [(a, .inr (4, [.ref q1, .ref q2, .ref q3, .ref q4, .ref q5, .ref q6, .ref q7, .ref q8, .ref q9, .ref q10, .ref q11])), (q1, .inr (2, [.long 1, .long 1, .int 0])), (q2, .inr (2, [.long 1, .long 1, .int 0])), (q3, .inr (2, [.long 0, .long 1, .int 0])), (q4, .inr (2, [.long 0, .long 1, .int 0])), (q5, .inr (2, [.long 0, .long 1, .int 0])), (q6, .inr (2, [.long 0, .long 1, .int 0])), (q7, .inr (2, [.long 0, .long 1, .int 0])), (q8, .inr (2, [.long 0, .long 1, .int 0])), (q9, .inr (2, [.long 0, .long 1, .int 0])), (q10, .inr (2, [.long 0, .long 1, .int 0])), (q11, .inr (2, [.long 0, .long 1, .int 0]))] := hD
  refine lv_aload_n hx hb dX4_init_141 rfl (lv_at hl 0 rfl) ?_
  refine va_get hx hb hts inlX4 hown hK.1 hP 0 rfl rfl 2 (by decide) (hts _ wm_5_4) (fun _ h => h) rfl dX4_init_142 ?_
  refine lv_lconst (v := 1) hx hb dX4_init_145 (by decide) ?_
  refine va_put hx hb hts inlX2 tyX2 tyX2_ok nmX2 hown hK.1 hP hD hS 3 rfl rfl 0 (by decide) (hts _ wm_5_13) (fun _ h => h) rfl rfl rfl rfl (Nat.le_of_ble_eq_true rfl) dX4_init_146 (fun H locs hP hD hS => ?_)
  have hP : va_P D vwCl [(a, .inr (4, [.ref q1, .ref q2, .ref q3, .ref q4, .ref q5, .ref q6, .ref q7, .ref q8, .ref q9, .ref q10, .ref q11])), (q1, .inr (2, [.long 1, .long 1, .int 0])), (q2, .inr (2, [.long 1, .long 1, .int 0])), (q3, .inr (2, [.long 1, .long 1, .int 0])), (q4, .inr (2, [.long 0, .long 1, .int 0])), (q5, .inr (2, [.long 0, .long 1, .int 0])), (q6, .inr (2, [.long 0, .long 1, .int 0])), (q7, .inr (2, [.long 0, .long 1, .int 0])), (q8, .inr (2, [.long 0, .long 1, .int 0])), (q9, .inr (2, [.long 0, .long 1, .int 0])), (q10, .inr (2, [.long 0, .long 1, .int 0])), (q11, .inr (2, [.long 0, .long 1, .int 0]))] H := hP
  have hD : va_D A [(a, .inr (4, [.ref q1, .ref q2, .ref q3, .ref q4, .ref q5, .ref q6, .ref q7, .ref q8, .ref q9, .ref q10, .ref q11])), (q1, .inr (2, [.long 1, .long 1, .int 0])), (q2, .inr (2, [.long 1, .long 1, .int 0])), (q3, .inr (2, [.long 1, .long 1, .int 0])), (q4, .inr (2, [.long 0, .long 1, .int 0])), (q5, .inr (2, [.long 0, .long 1, .int 0])), (q6, .inr (2, [.long 0, .long 1, .int 0])), (q7, .inr (2, [.long 0, .long 1, .int 0])), (q8, .inr (2, [.long 0, .long 1, .int 0])), (q9, .inr (2, [.long 0, .long 1, .int 0])), (q10, .inr (2, [.long 0, .long 1, .int 0])), (q11, .inr (2, [.long 0, .long 1, .int 0]))] := hD
  refine lv_aload_n hx hb dX4_init_149 rfl (lv_at hl 0 rfl) ?_
  refine va_get hx hb hts inlX4 hown hK.1 hP 0 rfl rfl 3 (by decide) (hts _ wm_5_5) (fun _ h => h) rfl dX4_init_150 ?_
  refine lv_lconst (v := 1) hx hb dX4_init_153 (by decide) ?_
  refine va_put hx hb hts inlX2 tyX2 tyX2_ok nmX2 hown hK.1 hP hD hS 4 rfl rfl 0 (by decide) (hts _ wm_5_13) (fun _ h => h) rfl rfl rfl rfl (Nat.le_of_ble_eq_true rfl) dX4_init_154 (fun H locs hP hD hS => ?_)
  have hP : va_P D vwCl [(a, .inr (4, [.ref q1, .ref q2, .ref q3, .ref q4, .ref q5, .ref q6, .ref q7, .ref q8, .ref q9, .ref q10, .ref q11])), (q1, .inr (2, [.long 1, .long 1, .int 0])), (q2, .inr (2, [.long 1, .long 1, .int 0])), (q3, .inr (2, [.long 1, .long 1, .int 0])), (q4, .inr (2, [.long 1, .long 1, .int 0])), (q5, .inr (2, [.long 0, .long 1, .int 0])), (q6, .inr (2, [.long 0, .long 1, .int 0])), (q7, .inr (2, [.long 0, .long 1, .int 0])), (q8, .inr (2, [.long 0, .long 1, .int 0])), (q9, .inr (2, [.long 0, .long 1, .int 0])), (q10, .inr (2, [.long 0, .long 1, .int 0])), (q11, .inr (2, [.long 0, .long 1, .int 0]))] H := hP
  have hD : va_D A [(a, .inr (4, [.ref q1, .ref q2, .ref q3, .ref q4, .ref q5, .ref q6, .ref q7, .ref q8, .ref q9, .ref q10, .ref q11])), (q1, .inr (2, [.long 1, .long 1, .int 0])), (q2, .inr (2, [.long 1, .long 1, .int 0])), (q3, .inr (2, [.long 1, .long 1, .int 0])), (q4, .inr (2, [.long 1, .long 1, .int 0])), (q5, .inr (2, [.long 0, .long 1, .int 0])), (q6, .inr (2, [.long 0, .long 1, .int 0])), (q7, .inr (2, [.long 0, .long 1, .int 0])), (q8, .inr (2, [.long 0, .long 1, .int 0])), (q9, .inr (2, [.long 0, .long 1, .int 0])), (q10, .inr (2, [.long 0, .long 1, .int 0])), (q11, .inr (2, [.long 0, .long 1, .int 0]))] := hD
  have hPf : va_P D vwCl ([(a, .inr (4, [.ref q1, .ref q2, .ref q3, .ref q4, .ref q5, .ref q6, .ref q7, .ref q8, .ref q9, .ref q10, .ref q11])), (q1, .inr (2, [.long 1, .long 1, .int 0])), (q2, .inr (2, [.long 1, .long 1, .int 0])), (q3, .inr (2, [.long 1, .long 1, .int 0])), (q4, .inr (2, [.long 1, .long 1, .int 0])), (q5, .inr (2, [.long 0, .long 1, .int 0])), (q6, .inr (2, [.long 0, .long 1, .int 0])), (q7, .inr (2, [.long 0, .long 1, .int 0])), (q8, .inr (2, [.long 0, .long 1, .int 0])), (q9, .inr (2, [.long 0, .long 1, .int 0])), (q10, .inr (2, [.long 0, .long 1, .int 0])), (q11, .inr (2, [.long 0, .long 1, .int 0]))]) H := hP.sub [0, 1, 2, 3, 4, 5, 6, 7, 8, 9, 10, 11] rfl
  have hDf : va_D A ([(a, .inr (4, [.ref q1, .ref q2, .ref q3, .ref q4, .ref q5, .ref q6, .ref q7, .ref q8, .ref q9, .ref q10, .ref q11])), (q1, .inr (2, [.long 1, .long 1, .int 0])), (q2, .inr (2, [.long 1, .long 1, .int 0])), (q3, .inr (2, [.long 1, .long 1, .int 0])), (q4, .inr (2, [.long 1, .long 1, .int 0])), (q5, .inr (2, [.long 0, .long 1, .int 0])), (q6, .inr (2, [.long 0, .long 1, .int 0])), (q7, .inr (2, [.long 0, .long 1, .int 0])), (q8, .inr (2, [.long 0, .long 1, .int 0])), (q9, .inr (2, [.long 0, .long 1, .int 0])), (q10, .inr (2, [.long 0, .long 1, .int 0])), (q11, .inr (2, [.long 0, .long 1, .int 0]))]) := hD.sub [0, 1, 2, 3, 4, 5, 6, 7, 8, 9, 10, 11] (by decide) rfl
  exact W.vret hx hb hr (fun t ht _ => ⟨⟨fun i => [a, q1, q2, q3, q4, q5, q6, q7, q8, q9, q10, q11].getD i 0, rfl, trivial, by rw [ht]; exact hPf, hDf⟩, hS.F ht⟩) hS.2.2 dX4_init_157 hlk
