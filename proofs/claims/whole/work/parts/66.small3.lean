theorem pset0 (n s : Nat) (v : Int32) (st : St) {N : Nat} (h8 : N ≤ 8) (e9 : st.1 1 9 = nI N) (hs : s < N) : fX10_set n (nI s) 0 v st = if 1 ≤ v ∧ v ≤ 50 then some (st.1 6 s, setI st 6 s v) else some (-2, st) := by
  simp (config := { decide := true }) only [fX10_set_s20, fX10_set_s93, fX10_set_s82, fX10_set_s79, fX10_set_s76, fX10_set_s66, fX10_set_s64, fX10_set_s58, fX10_set_s53, fX10_set_s48, fX10_set_s42, fX10_set_s41, fX10_set_s37, fX10_set_s30, fX10_set_s22, fX10_set_s17, fX10_set_s11, fX10_set_s8, fX10_set_s0, fX10_set, fX6_settings_s28, fX6_settings_s33, fX6_settings_s38, fX6_settings_s43, fX6_settings_s0, fX6_settings, phas, pw, Option.bind_some, e9, b1_pos (st_to (show N < 2 ^ 31 by omega) hs), inb_nI (show s < 8 by omega) (by decide), nI_clamp (show s < 2 ^ 31 by omega), if_true, if_false]
  by_cases h : (1 : Int32) ≤ v ∧ v ≤ 50
  · simp (config := { decide := true }) only [b1_pos h, if_pos h, b1_pos (show (0 : Int32) ≤ 0 ∧ (0 : Int32) ≤ 3 by decide), if_false, if_true]
  · simp (config := { decide := true }) only [b1_neg h, if_neg h, b1_pos (show (0 : Int32) ≤ 0 ∧ (0 : Int32) ≤ 3 by decide), if_false, if_true]
theorem psetM0 (n s : Nat) (v : Int32) (st : St) {N : Nat} (h8 : N ≤ 8) (e0 : st.1 130 0 = nI N) (hs : s < N) : fX11_set n (nI s) 0 v st = if 1 ≤ v ∧ v ≤ 50 then some (st.1 135 s, setI st 135 s v) else some (-2, st) := by
  simp (config := { decide := true }) only [fX11_set_s20, fX11_set_s176, fX11_set_s169, fX11_set_s166, fX11_set_s159, fX11_set_s154, fX11_set_s151, fX11_set_s144, fX11_set_s139, fX11_set_s136, fX11_set_s129, fX11_set_s123, fX11_set_s117, fX11_set_s108, fX11_set_s103, fX11_set_s94, fX11_set_s89, fX11_set_s80, fX11_set_s76, fX11_set_s73, fX11_set_s70, fX11_set_s61, fX11_set_s58, fX11_set_s55, fX11_set_s46, fX11_set_s41, fX11_set_s38, fX11_set_s35, fX11_set_s26, fX11_set_s22, fX11_set_s17, fX11_set_s8, fX11_set_s5, fX11_set_s0, fX11_set, pstage n (nI s) st e0 h8, Option.bind_some, b1_pos (st_to (show N < 2 ^ 31 by omega) hs), inb_nI (show s < 8 by omega) (by decide), nI_clamp (show s < 2 ^ 31 by omega), if_true, if_false, pinl (lo := 0) (hi := 3) (lo' := 0) (hi' := 3) (by decide) (by decide), pinl (lo := 1) (hi := 50) (lo' := 1) (hi' := 50) (by decide) (by decide)]
  by_cases h : (1 : Int32) ≤ v ∧ v ≤ 50
  · simp (config := { decide := true }) only [b1_pos h, if_pos h, b1_pos (show (0 : Int32) ≤ 0 ∧ (0 : Int32) ≤ 3 by decide), if_false, if_true]
  · simp (config := { decide := true }) only [b1_neg h, if_neg h, b1_pos (show (0 : Int32) ≤ 0 ∧ (0 : Int32) ≤ 3 by decide), if_false, if_true]
theorem pset1 (n s : Nat) (v : Int32) (st : St) {N : Nat} (h8 : N ≤ 8) (e9 : st.1 1 9 = nI N) (hs : s < N) : fX10_set n (nI s) 1 v st = if 1 ≤ v ∧ v ≤ 9999 then some (st.1 7 s, setI st 7 s v) else some (-2, st) := by
  simp (config := { decide := true }) only [fX10_set_s20, fX10_set_s93, fX10_set_s82, fX10_set_s79, fX10_set_s76, fX10_set_s66, fX10_set_s64, fX10_set_s58, fX10_set_s53, fX10_set_s48, fX10_set_s42, fX10_set_s41, fX10_set_s37, fX10_set_s30, fX10_set_s22, fX10_set_s17, fX10_set_s11, fX10_set_s8, fX10_set_s0, fX10_set, fX6_settings_s28, fX6_settings_s33, fX6_settings_s38, fX6_settings_s43, fX6_settings_s0, fX6_settings, phas, pw, Option.bind_some, e9, b1_pos (st_to (show N < 2 ^ 31 by omega) hs), inb_nI (show s < 8 by omega) (by decide), nI_clamp (show s < 2 ^ 31 by omega), if_true, if_false]
  by_cases h : (1 : Int32) ≤ v ∧ v ≤ 9999
  · simp (config := { decide := true }) only [b1_pos h, if_pos h, b1_pos (show (0 : Int32) ≤ 1 ∧ (1 : Int32) ≤ 3 by decide), if_false, if_true]
  · simp (config := { decide := true }) only [b1_neg h, if_neg h, b1_pos (show (0 : Int32) ≤ 1 ∧ (1 : Int32) ≤ 3 by decide), if_false, if_true]
theorem psetM1 (n s : Nat) (v : Int32) (st : St) {N : Nat} (h8 : N ≤ 8) (e0 : st.1 130 0 = nI N) (hs : s < N) : fX11_set n (nI s) 1 v st = if 1 ≤ v ∧ v ≤ 9999 then some (st.1 136 s, setI st 136 s v) else some (-2, st) := by
  simp (config := { decide := true }) only [fX11_set_s20, fX11_set_s176, fX11_set_s169, fX11_set_s166, fX11_set_s159, fX11_set_s154, fX11_set_s151, fX11_set_s144, fX11_set_s139, fX11_set_s136, fX11_set_s129, fX11_set_s123, fX11_set_s117, fX11_set_s108, fX11_set_s103, fX11_set_s94, fX11_set_s89, fX11_set_s80, fX11_set_s76, fX11_set_s73, fX11_set_s70, fX11_set_s61, fX11_set_s58, fX11_set_s55, fX11_set_s46, fX11_set_s41, fX11_set_s38, fX11_set_s35, fX11_set_s26, fX11_set_s22, fX11_set_s17, fX11_set_s8, fX11_set_s5, fX11_set_s0, fX11_set, pstage n (nI s) st e0 h8, Option.bind_some, b1_pos (st_to (show N < 2 ^ 31 by omega) hs), inb_nI (show s < 8 by omega) (by decide), nI_clamp (show s < 2 ^ 31 by omega), if_true, if_false, pinl (lo := 0) (hi := 3) (lo' := 0) (hi' := 3) (by decide) (by decide), pinl (lo := 1) (hi := 9999) (lo' := 1) (hi' := 9999) (by decide) (by decide)]
  by_cases h : (1 : Int32) ≤ v ∧ v ≤ 9999
  · simp (config := { decide := true }) only [b1_pos h, if_pos h, b1_pos (show (0 : Int32) ≤ 1 ∧ (1 : Int32) ≤ 3 by decide), if_false, if_true]
  · simp (config := { decide := true }) only [b1_neg h, if_neg h, b1_pos (show (0 : Int32) ≤ 1 ∧ (1 : Int32) ≤ 3 by decide), if_false, if_true]
theorem pset2 (n s : Nat) (v : Int32) (st : St) {N : Nat} (h8 : N ≤ 8) (e9 : st.1 1 9 = nI N) (hs : s < N) : fX10_set n (nI s) 2 v st = if 0 ≤ v ∧ v ≤ 99 then some (st.1 8 s, setI st 8 s v) else some (-2, st) := by
  simp (config := { decide := true }) only [fX10_set_s20, fX10_set_s93, fX10_set_s82, fX10_set_s79, fX10_set_s76, fX10_set_s66, fX10_set_s64, fX10_set_s58, fX10_set_s53, fX10_set_s48, fX10_set_s42, fX10_set_s41, fX10_set_s37, fX10_set_s30, fX10_set_s22, fX10_set_s17, fX10_set_s11, fX10_set_s8, fX10_set_s0, fX10_set, fX6_settings_s28, fX6_settings_s33, fX6_settings_s38, fX6_settings_s43, fX6_settings_s0, fX6_settings, phas, pw, Option.bind_some, e9, b1_pos (st_to (show N < 2 ^ 31 by omega) hs), inb_nI (show s < 8 by omega) (by decide), nI_clamp (show s < 2 ^ 31 by omega), if_true, if_false]
  by_cases h : (0 : Int32) ≤ v ∧ v ≤ 99
  · simp (config := { decide := true }) only [b1_pos h, if_pos h, b1_pos (show (0 : Int32) ≤ 2 ∧ (2 : Int32) ≤ 3 by decide), if_false, if_true]
  · simp (config := { decide := true }) only [b1_neg h, if_neg h, b1_pos (show (0 : Int32) ≤ 2 ∧ (2 : Int32) ≤ 3 by decide), if_false, if_true]
theorem psetM2 (n s : Nat) (v : Int32) (st : St) {N : Nat} (h8 : N ≤ 8) (e0 : st.1 130 0 = nI N) (hs : s < N) : fX11_set n (nI s) 2 v st = if 0 ≤ v ∧ v ≤ 99 then some (st.1 137 s, setI st 137 s v) else some (-2, st) := by
  simp (config := { decide := true }) only [fX11_set_s20, fX11_set_s176, fX11_set_s169, fX11_set_s166, fX11_set_s159, fX11_set_s154, fX11_set_s151, fX11_set_s144, fX11_set_s139, fX11_set_s136, fX11_set_s129, fX11_set_s123, fX11_set_s117, fX11_set_s108, fX11_set_s103, fX11_set_s94, fX11_set_s89, fX11_set_s80, fX11_set_s76, fX11_set_s73, fX11_set_s70, fX11_set_s61, fX11_set_s58, fX11_set_s55, fX11_set_s46, fX11_set_s41, fX11_set_s38, fX11_set_s35, fX11_set_s26, fX11_set_s22, fX11_set_s17, fX11_set_s8, fX11_set_s5, fX11_set_s0, fX11_set, pstage n (nI s) st e0 h8, Option.bind_some, b1_pos (st_to (show N < 2 ^ 31 by omega) hs), inb_nI (show s < 8 by omega) (by decide), nI_clamp (show s < 2 ^ 31 by omega), if_true, if_false, pinl (lo := 0) (hi := 3) (lo' := 0) (hi' := 3) (by decide) (by decide), pinl (lo := 0) (hi := 99) (lo' := 0) (hi' := 99) (by decide) (by decide)]
  by_cases h : (0 : Int32) ≤ v ∧ v ≤ 99
  · simp (config := { decide := true }) only [b1_pos h, if_pos h, b1_pos (show (0 : Int32) ≤ 2 ∧ (2 : Int32) ≤ 3 by decide), if_false, if_true]
  · simp (config := { decide := true }) only [b1_neg h, if_neg h, b1_pos (show (0 : Int32) ≤ 2 ∧ (2 : Int32) ≤ 3 by decide), if_false, if_true]
theorem pset3 (n s : Nat) (v : Int32) (st : St) {N : Nat} (h8 : N ≤ 8) (e9 : st.1 1 9 = nI N) (hs : s < N) : fX10_set n (nI s) 3 v st = if 0 ≤ v ∧ v ≤ 99 then some (st.1 9 s, setI st 9 s v) else some (-2, st) := by
  simp (config := { decide := true }) only [fX10_set_s20, fX10_set_s93, fX10_set_s82, fX10_set_s79, fX10_set_s76, fX10_set_s66, fX10_set_s64, fX10_set_s58, fX10_set_s53, fX10_set_s48, fX10_set_s42, fX10_set_s41, fX10_set_s37, fX10_set_s30, fX10_set_s22, fX10_set_s17, fX10_set_s11, fX10_set_s8, fX10_set_s0, fX10_set, fX6_settings_s28, fX6_settings_s33, fX6_settings_s38, fX6_settings_s43, fX6_settings_s0, fX6_settings, phas, pw, Option.bind_some, e9, b1_pos (st_to (show N < 2 ^ 31 by omega) hs), inb_nI (show s < 8 by omega) (by decide), nI_clamp (show s < 2 ^ 31 by omega), if_true, if_false]
  by_cases h : (0 : Int32) ≤ v ∧ v ≤ 99
  · simp (config := { decide := true }) only [b1_pos h, if_pos h, b1_pos (show (0 : Int32) ≤ 3 ∧ (3 : Int32) ≤ 3 by decide), if_false, if_true]
  · simp (config := { decide := true }) only [b1_neg h, if_neg h, b1_pos (show (0 : Int32) ≤ 3 ∧ (3 : Int32) ≤ 3 by decide), if_false, if_true]
theorem psetM3 (n s : Nat) (v : Int32) (st : St) {N : Nat} (h8 : N ≤ 8) (e0 : st.1 130 0 = nI N) (hs : s < N) : fX11_set n (nI s) 3 v st = if 0 ≤ v ∧ v ≤ 99 then some (st.1 138 s, setI st 138 s v) else some (-2, st) := by
  simp (config := { decide := true }) only [fX11_set_s20, fX11_set_s176, fX11_set_s169, fX11_set_s166, fX11_set_s159, fX11_set_s154, fX11_set_s151, fX11_set_s144, fX11_set_s139, fX11_set_s136, fX11_set_s129, fX11_set_s123, fX11_set_s117, fX11_set_s108, fX11_set_s103, fX11_set_s94, fX11_set_s89, fX11_set_s80, fX11_set_s76, fX11_set_s73, fX11_set_s70, fX11_set_s61, fX11_set_s58, fX11_set_s55, fX11_set_s46, fX11_set_s41, fX11_set_s38, fX11_set_s35, fX11_set_s26, fX11_set_s22, fX11_set_s17, fX11_set_s8, fX11_set_s5, fX11_set_s0, fX11_set, pstage n (nI s) st e0 h8, Option.bind_some, b1_pos (st_to (show N < 2 ^ 31 by omega) hs), inb_nI (show s < 8 by omega) (by decide), nI_clamp (show s < 2 ^ 31 by omega), if_true, if_false, pinl (lo := 0) (hi := 3) (lo' := 0) (hi' := 3) (by decide) (by decide), pinl (lo := 0) (hi := 99) (lo' := 0) (hi' := 99) (by decide) (by decide)]
  by_cases h : (0 : Int32) ≤ v ∧ v ≤ 99
  · simp (config := { decide := true }) only [b1_pos h, if_pos h, b1_pos (show (0 : Int32) ≤ 3 ∧ (3 : Int32) ≤ 3 by decide), if_false, if_true]
  · simp (config := { decide := true }) only [b1_neg h, if_neg h, b1_pos (show (0 : Int32) ≤ 3 ∧ (3 : Int32) ≤ 3 by decide), if_false, if_true]
theorem SPset (n : Nat) : SP_set n Inv := by
  intro a k v st hI
  obtain ⟨N, R, hP, hR, hT, hF, hTo, hL, hV, hW, hLe⟩ := id hI
  obtain ⟨h8, e9, e0, hrows, hal, hfs, hsh, hst⟩ := id hP
  by_cases h : 0 ≤ a ∧ a < nI N
  · obtain ⟨s, hs, rfl⟩ := st_of (by omega) h
    by_cases hk : 0 ≤ k ∧ k ≤ 3
    · obtain ⟨j, hj, rfl⟩ := nI_of2 (M := 3) (n := 3) rfl (le_of_nlt32.mpr hk.1) hk.2
      match j, hj with
      | 0, _ =>
        by_cases hv : (1 : Int32) ≤ v ∧ v ≤ 50
        · refine ⟨st.1 6 s, setI st 6 s v, setI (setI st 6 s v) 135 s v, ?_, ?_, ?_⟩
          · show fX10_set n (nI s) 0 v st = _
            rw [pset0 n s v st h8 e9 hs, if_pos hv]
          · show fX11_set n (nI s) 0 v _ = _
            rw [psetM0 n s v _ h8 (by rw [sI_o (by decide)]; exact e0) hs, if_pos hv, sI_o (by decide), hrows.2.2.2.2.1]
          · have hsm : Same [(6, none), (135, none)] [] st (setI (setI st 6 s v) 135 s v) := same_2I (Or.inl (mm2 0 rfl)) (Or.inl (mm2 1 rfl))
            refine ⟨N, R, ?_, RulesI_same hsm rfl rfl hR, TapeI_same hsm rfl rfl hT, FlowI_same hsm rfl rfl hF, ToldI_same hsm rfl rfl hTo, LineI_same hsm rfl rfl hL, LevI_same hsm rfl rfl hV, WorstI_same hsm rfl rfl hW, LetI_same hsm rfl rfl hLe⟩
            unfold PlanI
            simp (config := { decide := true }) only [sI_o, sI_row, sI_2, ne_eq, not_false_eq_true]
            refine ⟨h8, e9, e0, ⟨hrows.1, hrows.2.1, hrows.2.2.1, hrows.2.2.2.1, by rw [hrows.2.2.2.2.1], hrows.2.2.2.2.2.1, hrows.2.2.2.2.2.2.1, hrows.2.2.2.2.2.2.2.1, hrows.2.2.2.2.2.2.2.2⟩, hal, hfs, hsh, ?_⟩
            intro t ht
            obtain ⟨g1, g2, g3, g4, g5, g6, g7, g8, g9⟩ := hst t ht
            refine ⟨g1, g2, g3, g4, ?_, g6, g7, g8, g9⟩
            by_cases q : t = s
            · subst q
              rw [pk_us]
              obtain ⟨y, hy, rfl⟩ := nI_of2 (x := v) (M := 50) (n := 50) rfl (le_of_nlt32.mpr (Int32.le_trans (by decide) hv.1)) hv.2
              exact ⟨y, by have := hv.1; rw [Int32.le_iff_toInt_le, nI_toInt (by omega)] at this; have e : (1 : Int32).toInt = 1 := rfl; omega, hy, rfl⟩
            · rw [pk_un q]; exact g5
        · exact ⟨-2, st, st, (by show fX10_set n (nI s) 0 v st = _; rw [pset0 n s v st h8 e9 hs, if_neg hv]), (by show fX11_set n (nI s) 0 v st = _; rw [psetM0 n s v st h8 e0 hs, if_neg hv]), hI⟩
      | 1, _ =>
        by_cases hv : (1 : Int32) ≤ v ∧ v ≤ 9999
        · refine ⟨st.1 7 s, setI st 7 s v, setI (setI st 7 s v) 136 s v, ?_, ?_, ?_⟩
          · show fX10_set n (nI s) 1 v st = _
            rw [pset1 n s v st h8 e9 hs, if_pos hv]
          · show fX11_set n (nI s) 1 v _ = _
            rw [psetM1 n s v _ h8 (by rw [sI_o (by decide)]; exact e0) hs, if_pos hv, sI_o (by decide), hrows.2.2.2.2.2.1]
          · have hsm : Same [(7, none), (136, none)] [] st (setI (setI st 7 s v) 136 s v) := same_2I (Or.inl (mm2 0 rfl)) (Or.inl (mm2 1 rfl))
            refine ⟨N, R, ?_, RulesI_same hsm rfl rfl hR, TapeI_same hsm rfl rfl hT, FlowI_same hsm rfl rfl hF, ToldI_same hsm rfl rfl hTo, LineI_same hsm rfl rfl hL, LevI_same hsm rfl rfl hV, WorstI_same hsm rfl rfl hW, LetI_same hsm rfl rfl hLe⟩
            unfold PlanI
            simp (config := { decide := true }) only [sI_o, sI_row, sI_2, ne_eq, not_false_eq_true]
            refine ⟨h8, e9, e0, ⟨hrows.1, hrows.2.1, hrows.2.2.1, hrows.2.2.2.1, hrows.2.2.2.2.1, by rw [hrows.2.2.2.2.2.1], hrows.2.2.2.2.2.2.1, hrows.2.2.2.2.2.2.2.1, hrows.2.2.2.2.2.2.2.2⟩, hal, hfs, hsh, ?_⟩
            intro t ht
            obtain ⟨g1, g2, g3, g4, g5, g6, g7, g8, g9⟩ := hst t ht
            refine ⟨g1, g2, g3, g4, g5, ?_, g7, g8, g9⟩
            by_cases q : t = s
            · subst q
              rw [pk_us]
              obtain ⟨y, hy, rfl⟩ := nI_of2 (x := v) (M := 9999) (n := 9999) rfl (le_of_nlt32.mpr (Int32.le_trans (by decide) hv.1)) hv.2
              exact ⟨y, by have := hv.1; rw [Int32.le_iff_toInt_le, nI_toInt (by omega)] at this; have e : (1 : Int32).toInt = 1 := rfl; omega, hy, rfl⟩
            · rw [pk_un q]; exact g6
        · exact ⟨-2, st, st, (by show fX10_set n (nI s) 1 v st = _; rw [pset1 n s v st h8 e9 hs, if_neg hv]), (by show fX11_set n (nI s) 1 v st = _; rw [psetM1 n s v st h8 e0 hs, if_neg hv]), hI⟩
      | 2, _ =>
        by_cases hv : (0 : Int32) ≤ v ∧ v ≤ 99
        · refine ⟨st.1 8 s, setI st 8 s v, setI (setI st 8 s v) 137 s v, ?_, ?_, ?_⟩
          · show fX10_set n (nI s) 2 v st = _
            rw [pset2 n s v st h8 e9 hs, if_pos hv]
          · show fX11_set n (nI s) 2 v _ = _
            rw [psetM2 n s v _ h8 (by rw [sI_o (by decide)]; exact e0) hs, if_pos hv, sI_o (by decide), hrows.2.2.2.2.2.2.1]
          · have hsm : Same [(8, none), (137, none)] [] st (setI (setI st 8 s v) 137 s v) := same_2I (Or.inl (mm2 0 rfl)) (Or.inl (mm2 1 rfl))
            refine ⟨N, R, ?_, RulesI_same hsm rfl rfl hR, TapeI_same hsm rfl rfl hT, FlowI_same hsm rfl rfl hF, ToldI_same hsm rfl rfl hTo, LineI_same hsm rfl rfl hL, LevI_same hsm rfl rfl hV, WorstI_same hsm rfl rfl hW, LetI_same hsm rfl rfl hLe⟩
            unfold PlanI
            simp (config := { decide := true }) only [sI_o, sI_row, sI_2, ne_eq, not_false_eq_true]
            refine ⟨h8, e9, e0, ⟨hrows.1, hrows.2.1, hrows.2.2.1, hrows.2.2.2.1, hrows.2.2.2.2.1, hrows.2.2.2.2.2.1, by rw [hrows.2.2.2.2.2.2.1], hrows.2.2.2.2.2.2.2.1, hrows.2.2.2.2.2.2.2.2⟩, hal, hfs, hsh, ?_⟩
            intro t ht
            obtain ⟨g1, g2, g3, g4, g5, g6, g7, g8, g9⟩ := hst t ht
            refine ⟨g1, g2, g3, g4, g5, g6, ?_, g8, g9⟩
            by_cases q : t = s
            · subst q
              rw [pk_us]
              obtain ⟨y, hy, rfl⟩ := nI_of2 (x := v) (M := 99) (n := 99) rfl (le_of_nlt32.mpr (hv.1)) hv.2
              exact ⟨y, hy, rfl⟩
            · rw [pk_un q]; exact g7
        · exact ⟨-2, st, st, (by show fX10_set n (nI s) 2 v st = _; rw [pset2 n s v st h8 e9 hs, if_neg hv]), (by show fX11_set n (nI s) 2 v st = _; rw [psetM2 n s v st h8 e0 hs, if_neg hv]), hI⟩
      | 3, _ =>
        by_cases hv : (0 : Int32) ≤ v ∧ v ≤ 99
        · refine ⟨st.1 9 s, setI st 9 s v, setI (setI st 9 s v) 138 s v, ?_, ?_, ?_⟩
          · show fX10_set n (nI s) 3 v st = _
            rw [pset3 n s v st h8 e9 hs, if_pos hv]
          · show fX11_set n (nI s) 3 v _ = _
            rw [psetM3 n s v _ h8 (by rw [sI_o (by decide)]; exact e0) hs, if_pos hv, sI_o (by decide), hrows.2.2.2.2.2.2.2.1]
          · have hsm : Same [(9, none), (138, none)] [] st (setI (setI st 9 s v) 138 s v) := same_2I (Or.inl (mm2 0 rfl)) (Or.inl (mm2 1 rfl))
            refine ⟨N, R, ?_, RulesI_same hsm rfl rfl hR, TapeI_same hsm rfl rfl hT, FlowI_same hsm rfl rfl hF, ToldI_same hsm rfl rfl hTo, LineI_same hsm rfl rfl hL, LevI_same hsm rfl rfl hV, WorstI_same hsm rfl rfl hW, LetI_same hsm rfl rfl hLe⟩
            unfold PlanI
            simp (config := { decide := true }) only [sI_o, sI_row, sI_2, ne_eq, not_false_eq_true]
            refine ⟨h8, e9, e0, ⟨hrows.1, hrows.2.1, hrows.2.2.1, hrows.2.2.2.1, hrows.2.2.2.2.1, hrows.2.2.2.2.2.1, hrows.2.2.2.2.2.2.1, by rw [hrows.2.2.2.2.2.2.2.1], hrows.2.2.2.2.2.2.2.2⟩, hal, hfs, hsh, ?_⟩
            intro t ht
            obtain ⟨g1, g2, g3, g4, g5, g6, g7, g8, g9⟩ := hst t ht
            refine ⟨g1, g2, g3, g4, g5, g6, g7, ?_, g9⟩
            by_cases q : t = s
            · subst q
              rw [pk_us]
              obtain ⟨y, hy, rfl⟩ := nI_of2 (x := v) (M := 99) (n := 99) rfl (le_of_nlt32.mpr (hv.1)) hv.2
              exact ⟨y, hy, rfl⟩
            · rw [pk_un q]; exact g8
        · exact ⟨-2, st, st, (by show fX10_set n (nI s) 3 v st = _; rw [pset3 n s v st h8 e9 hs, if_neg hv]), (by show fX11_set n (nI s) 3 v st = _; rw [psetM3 n s v st h8 e0 hs, if_neg hv]), hI⟩
    · refine ⟨-1, st, st, ?_, ?_, hI⟩
      · simp only [fX10_set, fX10_set_s0, phas, Option.bind_some, e9, b1_pos h, fX10_set_s8, fX10_set_s11, pw, b1_neg hk, fX10_set_s17, fX10_set_s20]
        rfl
      · simp only [fX11_set, fX11_set_s0, pstage n (nI s) st e0 h8, Option.bind_some, b1_pos h, fX11_set_s5, fX11_set_s8, pinl (lo := 0) (hi := 3) (lo' := 0) (hi' := 3) (by decide) (by decide), b1_neg hk, fX11_set_s17, fX11_set_s20]
        rfl
  · refine ⟨-1, st, st, ?_, ?_, hI⟩
    · simp only [fX10_set, fX10_set_s0, phas, Option.bind_some, e9, b1_neg h, fX10_set_s8, fX10_set_s20]
      rfl
    · simp only [fX11_set, fX11_set_s0, pstage n a st e0 h8, Option.bind_some, b1_neg h, fX11_set_s5, fX11_set_s20]
      rfl
theorem cnt_loop (n N : Nat) (st : St) (h8 : N ≤ 8) (e0 : st.1 130 0 = nI N) : ∀ (k i : Nat), i ≤ N → N - i < k → fX11_count_L67 n k (nI (cnt3 (st.1 131) i)) (nI i) st = some (nI (cnt3 (st.1 131) N), st) := by
  intro k
  induction k with
  | zero => intro i _ h; omega
  | succ k ih =>
    intro i hi hk
    simp only [fX11_count_L67, fX11_count_s67, e0]
    by_cases h : i = N
    · subst h
      rw [if_pos (nI_le (Nat.le_refl _) (by omega))]
      rfl
    · rw [if_neg (nI_ge (by omega) (by omega))]
      simp only [fX11_count_s75, inb_nI (show i < 8 by omega) (by decide), if_true, nI_clamp (show i < 2 ^ 31 by omega)]
      have hn := ih (i + 1) (by omega) (by omega)
      by_cases h3 : st.1 131 i = 3
      · rw [if_pos h3]
        simp only [fX11_count_s86, fX11_count_s91]
        rw [show nI (cnt3 (st.1 131) i) + 1 = nI (cnt3 (st.1 131) (i + 1)) from by rw [cnt3, if_pos h3, nI_1], nI_1]
        exact hn
      · rw [if_neg h3]
        simp only [fX11_count_s90, fX11_count_s91]
        rw [show nI (cnt3 (st.1 131) i) + 0 = nI (cnt3 (st.1 131) (i + 1)) from by rw [cnt3, if_neg h3, Nat.add_zero]; simp, nI_1]
        exact hn
theorem SPcount (n : Nat) (hn : 100 ≤ n) : SP_count n Inv := by
  intro a st hI
  obtain ⟨N, R, hP, hR, hT, hF, hTo, hL, hV, hW, hLe⟩ := id hI
  obtain ⟨h8, e9, e0, hrows, ⟨h, h2, eh, eh'⟩, hfs, hsh, hst⟩ := id hP
  obtain ⟨hR12, eR, eR', hrl⟩ := id hR
  obtain ⟨T, hT120, eT, eT', hbt⟩ := id hT
  obtain ⟨w, fs, md, sd, stk, slt, od, osh, snt, orH, snH, hw, hfs0, hN0, hFl, hPa⟩ := id hF
  obtain ⟨ew, ew', -⟩ := hFl.1
  have e5 := cnt_loop n N st h8 e0 n 0 (Nat.zero_le _) (by omega)
  rw [show nI (cnt3 (st.1 131) 0) = 0 from rfl, show nI 0 = 0 from rfl, hrows.1] at e5
  simp only [fX10_count, fX10_count_s0, fX11_count, fX11_count_s0]
  by_cases q0 : a = 0
  · exact ⟨nI N, st, st, by rw [if_pos q0]; simp only [fX10_count_s40, e9], by rw [if_pos q0]; simp only [fX11_count_s40, e0], hI⟩
  by_cases q1 : a = 1
  · exact ⟨nI R, st, st, by rw [if_neg q0, if_pos q1]; simp only [fX10_count_s48, eR], by rw [if_neg q0, if_pos q1]; simp only [fX11_count_s45, eR'], hI⟩
  by_cases q2 : a = 2
  · exact ⟨nI w, st, st, by rw [if_neg q0, if_neg q1, if_pos q2]; simp only [fX10_count_s56, ew], by rw [if_neg q0, if_neg q1, if_pos q2]; simp only [fX11_count_s50, ew'], hI⟩
  by_cases q3 : a = 3
  · exact ⟨nI h, st, st, by rw [if_neg q0, if_neg q1, if_neg q2, if_pos q3]; simp only [fX10_count_s64, eh], by rw [if_neg q0, if_neg q1, if_neg q2, if_pos q3]; simp only [fX11_count_s55, eh'], hI⟩
  by_cases q4 : a = 4
  · exact ⟨nI T, st, st, by rw [if_neg q0, if_neg q1, if_neg q2, if_neg q3, if_pos q4]; simp only [fX10_count_s72, eT], by rw [if_neg q0, if_neg q1, if_neg q2, if_neg q3, if_pos q4]; simp only [fX11_count_s60, eT'], hI⟩
  by_cases q5 : a = 5
  · exact ⟨nI (cnt3 (st.1 2) N), st, st, by rw [if_neg q0, if_neg q1, if_neg q2, if_neg q3, if_neg q4, if_pos q5]; simp only [fX10_count_s80, hsh], by rw [if_neg q0, if_neg q1, if_neg q2, if_neg q3, if_neg q4, if_pos q5]; simp only [fX11_count_s65]; exact e5, hI⟩
  · exact ⟨-1, st, st, by rw [if_neg q0, if_neg q1, if_neg q2, if_neg q3, if_neg q4, if_neg q5]; rfl, by rw [if_neg q0, if_neg q1, if_neg q2, if_neg q3, if_neg q4, if_neg q5]; rfl, hI⟩
