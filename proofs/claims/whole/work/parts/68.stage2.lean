theorem stg_same (st : St) (N : Nat) (kd sp wy dl sk : Int32) : Same [(2, none), (3, none), (4, none), (5, none), (6, none), (7, none), (8, none), (9, none), (10, none), (1, some 10), (1, some 9), (54, none), (131, none), (132, none), (133, none), (134, none), (135, none), (136, none), (137, none), (138, none), (139, none), (130, some 0)] [(1, some 12), (141, none), (130, some 11)] st (stgM (stgC st N kd sp wy dl sk) N kd sp wy dl sk) := by
  unfold stgM stgC
  exact (((((((((((((((((((((((((same_I (Or.inl (mm2 0 rfl))).trans (same_I (Or.inl (mm2 1 rfl)))).trans (same_I (Or.inl (mm2 2 rfl)))).trans (same_I (Or.inl (mm2 3 rfl)))).trans (same_I (Or.inl (mm2 4 rfl)))).trans (same_I (Or.inl (mm2 5 rfl)))).trans (same_I (Or.inl (mm2 6 rfl)))).trans (same_I (Or.inl (mm2 7 rfl)))).trans (same_I (Or.inl (mm2 8 rfl)))).trans (same_J (Or.inr (mm2 0 rfl)))).trans (same_I (Or.inr (mm2 9 rfl)))).trans (same_I (Or.inr (mm2 10 rfl)))).trans (same_I (Or.inl (mm2 11 rfl)))).trans (same_I (Or.inl (mm2 12 rfl)))).trans (same_I (Or.inl (mm2 13 rfl)))).trans (same_I (Or.inl (mm2 14 rfl)))).trans (same_I (Or.inl (mm2 15 rfl)))).trans (same_I (Or.inl (mm2 16 rfl)))).trans (same_I (Or.inl (mm2 17 rfl)))).trans (same_I (Or.inl (mm2 18 rfl)))).trans (same_I (Or.inl (mm2 19 rfl)))).trans (same_I (Or.inl (mm2 20 rfl)))).trans (same_J (Or.inl (mm2 1 rfl)))).trans (same_J (Or.inr (mm2 2 rfl)))).trans (same_I (Or.inr (mm2 21 rfl))))
theorem pend0 (orH : Nat → Nat → Nat) (dly c d : Nat) : pend orH 0 dly c d = 0 := by
  unfold pend
  rw [if_neg (by omega)]
theorem pend0' (orH : Nat → Nat → Nat) (dly c : Nat) : pend orH 0 dly c = fun _ => 0 := funext fun d => pend0 orH dly c d
theorem sumN_congr {f g : Nat → Nat} : ∀ k, (∀ i, i < k → f i = g i) → sumN f k = sumN g k := by
  intro k
  induction k with
  | zero => intro _; rfl
  | succ k ih => intro h; rw [sumN, sumN, ih (fun i hi => h i (by omega)), h k (by omega)]
theorem sumN_set {f g : Nat → Nat} {j d : Nat} (hj : g j = f j + d) (ho : ∀ i, i ≠ j → g i = f i) : ∀ k, j < k → sumN g k = sumN f k + d := by
  intro k
  induction k with
  | zero => intro h; omega
  | succ k ih =>
    intro h
    rw [sumN, sumN]
    by_cases q : j = k
    · subst q
      rw [sumN_congr j (fun i hi => ho i (by omega)), hj]; omega
    · rw [ih (by omega), ho k (fun z => q z.symm)]; omega
set_option maxHeartbeats 2000000 in
theorem stage_inv {st : St} {N R : Nat} {k v p wy dy : Nat} {kd sp : Int32} (hN : N < 8) (hv : v ≤ 9999) (hy : 1 ≤ wy ∧ wy ≤ 6) (hd : dy ≤ 3) (h0 : N = 0 → kd = 0 ∧ sp = -1) (h1 : N ≠ 0 → (1 ≤ k ∧ k ≤ 3 ∧ kd = nI k) ∧ (p < N ∧ sp = nI p ∧ st.1 2 p ≠ 3)) (hP : PlanI st N R) (hR : RulesI st R) (hT : TapeI st) (hF : FlowI st N) (hw0 : st.1 53 10 = nI 0) (hTo : ToldI st N) (hL : LineI st) (hV : LevI st) (hW : WorstI st) (hLe : LetI st) : Inv (stgM (stgC st N kd sp (nI wy) (nI dy) (nI v)) N kd sp (nI wy) (nI dy) (nI v)) := by
  have hs := stg_same st N kd sp (nI wy) (nI dy) (nI v)
  obtain ⟨h8, e9, e0, hrows, hal, ⟨f0, hf0, ef, ef'⟩, hsh, hst⟩ := id hP
  have hvl : (nI v).toInt64 = lN v := nI_l (by omega)
  refine ⟨N + 1, R, ?_, RulesI_same hs rfl rfl hR, TapeI_same hs rfl rfl hT, ?_, ?_, LineI_same hs rfl rfl hL, LevI_same hs rfl rfl hV, WorstI_same hs rfl rfl hW, LetI_same hs rfl rfl hLe⟩
  · unfold PlanI
    simp (config := { decide := true }) only [stgM, stgC, sI_o, sI_row, sI_k, sI_at, sI_2, sJ_o, sJ_row, sJ_k, sJ_at, sJ_1, ne_eq, not_false_eq_true, pk_us, pk_uLs]
    refine ⟨by omega, trivial, trivial, ⟨by rw [hrows.1], by rw [hrows.2.1], by rw [hrows.2.2.1], by rw [hrows.2.2.2.1], by rw [hrows.2.2.2.2.1], by rw [hrows.2.2.2.2.2.1], by rw [hrows.2.2.2.2.2.2.1], by rw [hrows.2.2.2.2.2.2.2.1], by rw [hrows.2.2.2.2.2.2.2.2]⟩, hal, ⟨f0 + v, by omega, by rw [ef, hvl, lN_add], by rw [ef', hvl, lN_add]⟩, ?_, ?_⟩
    · rw [hsh, cnt3, cnt3_upd _ _ _ N (Nat.le_refl _), pk_us]
      by_cases h3 : kd = 3
      · rw [if_pos h3, if_pos h3, nI_1]
      · rw [if_neg h3, if_neg h3, Nat.add_zero]; simp
    · intro s hs
      by_cases q : s = N
      · subst q
        unfold StageI
        rw [pk_us, pk_us, pk_us, pk_us, pk_us, pk_us, pk_us, pk_us, pk_us]
        refine ⟨h0, fun z => ⟨⟨k, (h1 z).1⟩, p, (h1 z).2.1, (h1 z).2.2.1, by rw [pk_un (by have := (h1 z).2.1; omega)]; exact (h1 z).2.2.2⟩, ⟨wy, hy.1, hy.2, rfl⟩, ⟨dy, hd, rfl⟩, ⟨1, by omega, by omega, rfl⟩, ⟨9999, by omega, by omega, rfl⟩, ⟨1, by omega, rfl⟩, ⟨1, by omega, rfl⟩, Or.inl rfl⟩
      · have g := hst s (by omega)
        unfold StageI at g ⊢
        rw [pk_un q, pk_un q, pk_un q, pk_un q, pk_un q, pk_un q, pk_un q, pk_un q, pk_un q]
        obtain ⟨g1, g2, g3⟩ := g
        refine ⟨g1, fun z => ⟨(g2 z).1, ?_⟩, g3⟩
        obtain ⟨p', hp1, hp2, hp3⟩ := (g2 z).2
        exact ⟨p', hp1, hp2, by rw [pk_un (by omega)]; exact hp3⟩
  · obtain ⟨w, fs, md, sd, stk, slt, od, osh, snt, orH, snH, hw, hfs0, hN0, hFl, hPa⟩ := hF
    have ew := hFl.1.1
    have hw00 : w = 0 := (nI_eq (a := w) (b := 0) (by omega) (by omega)).mp (ew.symm.trans hw0)
    subst hw00
    obtain ⟨⟨f1, f2, f3, f4, f5, f6⟩, f7, f8, f9, f10, f11, f12, f13, f14, f15, f16, f17, f18, f19, f20, f21, f22⟩ := hFl
    have hz := f19 N (Nat.le_refl _) hN
    refine ⟨0, fs + v, md, sd, fun s => if s = N then v else stk s, slt, od, osh, snt, orH, snH, by omega, by omega, fun z => by omega, ?_, ?_⟩
    · unfold FlowN
      simp (config := { decide := true }) only [stgM, stgC, sI_o, sI_row, sI_k, sI_at, sI_2, sJ_o, sJ_row, sJ_k, sJ_at, sJ_1, ne_eq, not_false_eq_true, pk_us, pk_uLs]
      refine ⟨⟨f1, f2, f3, f4, f5, f6⟩, ?_, f8, f9, ?_, f11, ?_, ?_, ?_, f15, f16, f17, f18, ?_, ?_, f21, ?_⟩
      · intro s h
        by_cases q : s = N
        · subst q; rw [pk_us, pk_uLs, if_pos rfl, hvl]; exact ⟨rfl, rfl⟩
        · rw [pk_un q, pk_uLn q, if_neg q]; exact f7 s h
      · intro s h
        rw [f10 s h]
        congr 2
        refine sumN_congr 8 (fun c hc => ?_)
        by_cases q : c = N
        · subst q; rw [hz.2.2.1]; simp
        · rw [pk_un q]
          by_cases z : c < N
          · simp only [z, show c < N + 1 by omega]
          · simp only [z, show ¬ c < N + 1 by omega, false_and]
      · intro s c h hc
        rw [f12 s c h hc]
        congr 2
        by_cases q : c = N
        · subst q; rw [hz.2.2.1]; simp
        · rw [pk_un q]
          by_cases z : c < N
          · simp only [z, show c < N + 1 by omega]
          · simp only [z, show ¬ c < N + 1 by omega, false_and]
      · intro c hc
        rw [f13 c hc]
        simp only [pend0']
      · intro c d hc hd
        rw [f14 c d hc hd]
        simp only [pend0]
      · intro s h1 h2
        rw [if_neg (by omega)]
        exact f19 s (by omega) h2
      · intro s h hk
        by_cases q : s = N
        · subst q; exact hz.2.2.2.1
        · rw [pk_un q] at hk; exact f20 s h hk
      · obtain ⟨c1, c2⟩ := f22
        refine ⟨?_, c2⟩
        rw [sumN_set (f := fun s => stk s + sumN (slt s) 6) (j := N) (d := v) (by rw [if_pos rfl, hz.1]; omega) (fun i hi => by rw [if_neg hi]) 8 hN]
        omega
    · unfold PastN at hPa ⊢
      simp (config := { decide := true }) only [stgM, stgC, sI_o, sI_row, sI_k, sI_at, sI_2, sJ_o, sJ_row, sJ_k, sJ_at, sJ_1, ne_eq, not_false_eq_true, pk_us, pk_uLs]
      exact hPa
  · have h := ToldI_same hs rfl rfl hTo
    exact ⟨fun s hs => ⟨(h.1 s hs).1, (h.1 s hs).2.1, fun z => (h.1 s hs).2.2 (by omega)⟩, h.2⟩
theorem SPstage (n : Nat) : SP_stage n Inv := by
  intro kd sp wy dl sk st hI
  obtain ⟨N, R, hP, hR, hT, hF, hTo, hL, hV, hW, hLe⟩ := id hI
  obtain ⟨h8, e9, e0, hrows, hal, hfs, hsh, hst⟩ := id hP
  obtain ⟨w, fs, md, sd, stk, slt, od, osh, snt, orH, snH, hw, hfs0, hN0, hFl, hPa⟩ := id hF
  obtain ⟨ew, ew', -⟩ := id hFl.1
  have a1 := pstg n N kd sp wy dl sk st h8 e9 hw ew
  by_cases c1 : (if N = 0 then sp = 0 else 0 ≤ sp ∧ sp < nI N)
  · rw [if_neg (fun q => q c1)] at a1
    by_cases c2 : ((if N = 0 then kd = 0 else 1 ≤ kd ∧ kd ≤ 3) ∧ (1 ≤ wy ∧ wy ≤ 6) ∧ (0 ≤ dl ∧ dl ≤ 3) ∧ (0 ≤ sk ∧ sk ≤ 9999) ∧ (N ≠ 0 → st.1 2 sp.toNatClampNeg ≠ 3))
    · rw [if_neg (fun q => q c2)] at a1
      have c2m : ((if N = 0 then kd = 0 else 1 ≤ kd ∧ kd ≤ 3) ∧ (1 ≤ wy ∧ wy ≤ 6) ∧ (0 ≤ dl ∧ dl ≤ 3) ∧ (0 ≤ sk ∧ sk ≤ 9999) ∧ (N ≠ 0 → st.1 131 sp.toNatClampNeg ≠ 3)) := by rw [hrows.1]; exact c2
      by_cases hw0 : w = 0
      · subst hw0
        rw [if_neg (fun q => q rfl)] at a1
        by_cases h88 : N = 8
        · rw [if_pos h88] at a1
          refine ⟨-4, st, st, a1, ?_, hI⟩
          rw [pstgM n N kd sp wy dl sk st h8 e0 hw ew', if_neg (fun q => q c1), if_neg (fun q => q c2m), if_neg (fun q => q rfl), if_pos h88]
        · rw [if_neg h88] at a1
          obtain ⟨b2, b3, b4, b5, b6⟩ := c2
          obtain ⟨y, hy, rfl⟩ := nI_of2 (x := wy) (M := 6) (n := 6) rfl (le_of_nlt32.mpr (Int32.le_trans (by decide) b3.1)) b3.2
          obtain ⟨dy, hd, rfl⟩ := nI_of2 (x := dl) (M := 3) (n := 3) rfl (le_of_nlt32.mpr b4.1) b4.2
          obtain ⟨v, hv, rfl⟩ := nI_of2 (x := sk) (M := 9999) (n := 9999) rfl (le_of_nlt32.mpr b5.1) b5.2
          have hy1 : 1 ≤ y := by
            have := b3.1
            rw [Int32.le_iff_toInt_le, nI_toInt (by omega)] at this
            have e : (1 : Int32).toInt = 1 := rfl
            omega
          refine ⟨nI N, _, stgM (stgC st N kd (if N = 0 then -1 else sp) (nI y) (nI dy) (nI v)) N kd (if N = 0 then -1 else sp) (nI y) (nI dy) (nI v), a1, ?_, ?_⟩
          · have e0' : (stgC st N kd (if N = 0 then -1 else sp) (nI y) (nI dy) (nI v)).1 130 0 = nI N := by
              simp (config := { decide := true }) only [stgC, sI_o, sJ_1, ne_eq, not_false_eq_true]; exact e0
            have ew2 : (stgC st N kd (if N = 0 then -1 else sp) (nI y) (nI dy) (nI v)).1 130 12 = nI 0 := by
              simp (config := { decide := true }) only [stgC, sI_o, sJ_1, ne_eq, not_false_eq_true]; exact ew'
            have ek : (stgC st N kd (if N = 0 then -1 else sp) (nI y) (nI dy) (nI v)).1 131 = st.1 131 := by
              simp (config := { decide := true }) only [stgC, sI_o, sJ_1, ne_eq, not_false_eq_true]
            rw [pstgM n N kd sp (nI y) (nI dy) (nI v) _ h8 e0' hw ew2, if_neg (fun q => q c1), if_neg (fun q => q (by rw [ek]; exact c2m)), if_neg (fun q => q rfl), if_neg h88]
          · by_cases z : N = 0
            · rw [if_pos z]
              rw [if_pos z] at b2
              exact stage_inv (k := 0) (p := 0) (by omega) hv ⟨hy1, hy⟩ hd (fun _ => ⟨b2, rfl⟩) (fun q => absurd z q) hP hR hT hF ew hTo hL hV hW hLe
            · rw [if_neg z]
              rw [if_neg z] at b2 c1
              obtain ⟨p, hp, rfl⟩ := st_of (by omega) c1
              obtain ⟨k, hk, rfl⟩ := nI_of2 (x := kd) (M := 3) (n := 3) rfl (le_of_nlt32.mpr (Int32.le_trans (by decide) b2.1)) b2.2
              have hk1 : 1 ≤ k := by
                have := b2.1
                rw [Int32.le_iff_toInt_le, nI_toInt (by omega)] at this
                have e : (1 : Int32).toInt = 1 := rfl
                omega
              have b6 := b6 z
              rw [nI_clamp (by omega)] at b6
              exact stage_inv (k := k) (p := p) (by omega) hv ⟨hy1, hy⟩ hd (fun q => absurd q z) (fun _ => ⟨⟨hk1, hk, rfl⟩, hp, rfl, b6⟩) hP hR hT hF ew hTo hL hV hW hLe
      · rw [if_pos hw0] at a1
        refine ⟨-3, st, st, a1, ?_, hI⟩
        rw [pstgM n N kd sp wy dl sk st h8 e0 hw ew', if_neg (fun q => q c1), if_neg (fun q => q c2m), if_pos hw0]
    · rw [if_pos c2] at a1
      refine ⟨-2, st, st, a1, ?_, hI⟩
      rw [pstgM n N kd sp wy dl sk st h8 e0 hw ew', if_neg (fun q => q c1), if_pos (by rw [hrows.1]; exact c2)]
  · rw [if_pos c1] at a1
    refine ⟨-1, st, st, a1, ?_, hI⟩
    rw [pstgM n N kd sp wy dl sk st h8 e0 hw ew', if_pos c1]
