theorem inb_nI {j N : Nat} (h : j < N) (hN : N < 2 ^ 31) : inb (nI j) N = true := by
  have h1 := vp_in_nI h hN
  unfold vp_in at h1
  unfold inb
  simpa using h1
theorem st_of {a : Int32} {N : Nat} (hN : N < 2 ^ 31) (h : 0 ≤ a ∧ a < nI N) : ∃ j, j < N ∧ a = nI j := by
  obtain ⟨j, hj, rfl⟩ := nI_of (le_of_nlt32.mpr h.1)
  exact ⟨j, (nI_ltI hj hN).mp h.2, rfl⟩
theorem st_to {j N : Nat} (hN : N < 2 ^ 31) (h : j < N) : (0 : Int32) ≤ nI j ∧ nI j < nI N := ⟨nI_pos' (by omega), nI_lt h hN⟩
theorem pinl {lo hi : Int32} {lo' hi' : Int64} (h1 : lo' = lo.toInt64) (h2 : hi' = hi.toInt64) (n : Nat) (a : Int32) (st : St) : fX11_in n a.toInt64 lo' hi' st = some (b1 (lo ≤ a ∧ a ≤ hi), st) := by rw [h1, h2, pin32]
theorem pm1 {N : Nat} (h : N < 2 ^ 30) (a lo : Int32) : (lo ≤ a ∧ a ≤ nI N - 1) ↔ (lo ≤ a ∧ a < nI N) := by
  have e : (nI N - 1).toInt = (N : Int) - 1 := pk_sub_toInt (a := N) (b := 1) h (by omega)
  have e2 : (nI N).toInt = (N : Int) := nI_toInt (by omega)
  rw [Int32.le_iff_toInt_le, Int32.le_iff_toInt_le, Int32.lt_iff_toInt_lt, e, e2]
  omega
theorem phasR (n : Nat) (a : Int32) (st : St) : fX7_has n a st = some (b1 (0 ≤ a ∧ a < st.1 11 3), st) := by
  simp only [fX7_has, fX7_has_s0, fX7_has_s4, fX7_has_s12, fX7_has_s16, fX7_has_s17]
  by_cases h1 : a < 0
  · rw [if_pos h1, b1_neg (fun w => absurd h1 (le_of_nlt32.mpr w.1))]; rfl
  · rw [if_neg h1]
    by_cases h2 : st.1 11 3 ≤ a
    · rw [if_pos h2, b1_neg (fun w => absurd w.2 (le_of_nlt32.mpr h2))]; rfl
    · rw [if_neg h2, b1_pos ⟨le_of_nlt32.mp h1, Classical.byContradiction fun w => h2 (le_of_nlt32.mp w)⟩]; rfl
/-- a shop, in both -/
def shopP (st : St) (N : Nat) (a : Int32) : Prop := (0 ≤ a ∧ a < nI N) ∧ st.1 2 a.toNatClampNeg = 3
theorem pshop (n : Nat) (a : Int32) (st : St) {N : Nat} (h8 : N ≤ 8) (e9 : st.1 1 9 = nI N) : ∃ b : Int32, fX6_isShop n a st = some (b, st) ∧ ((b = 1 ∧ shopP st N a) ∨ (b = 0 ∧ ¬ shopP st N a)) := by
  simp only [fX6_isShop, fX6_isShop_s0, phas, Option.bind_some, e9]
  by_cases h : 0 ≤ a ∧ a < nI N
  · obtain ⟨j, hj, rfl⟩ := st_of (by omega) h
    simp only [fX6_isShop_s5, fX6_isShop_s8, b1_pos h, inb_nI (show j < 8 by omega) (by decide), if_true]
    by_cases h3 : st.1 2 (nI j).toNatClampNeg = 3
    · exact ⟨1, by rw [if_neg (by decide), if_pos h3]; rfl, Or.inl ⟨rfl, h, h3⟩⟩
    · exact ⟨0, by rw [if_neg (by decide), if_neg h3]; rfl, Or.inr ⟨rfl, fun w => h3 w.2⟩⟩
  · exact ⟨0, by rw [b1_neg h]; rfl, Or.inr ⟨rfl, fun w => h w.1⟩⟩
theorem pshopM (n : Nat) (a : Int32) (st : St) {N : Nat} (h8 : N ≤ 8) (e0 : st.1 130 0 = nI N) (ek : st.1 131 = st.1 2) : ∃ b : Int32, fX11_isShop n a st = some (b, st) ∧ ((b = 1 ∧ shopP st N a) ∨ (b = 0 ∧ ¬ shopP st N a)) := by
  simp only [fX11_isShop, fX11_isShop_s0, pstage n a st e0 h8, Option.bind_some]
  by_cases h : 0 ≤ a ∧ a < nI N
  · obtain ⟨j, hj, rfl⟩ := st_of (by omega) h
    simp only [fX11_isShop_s5, fX11_isShop_s8, b1_pos h, inb_nI (show j < 8 by omega) (by decide), if_true, ek]
    by_cases h3 : st.1 2 (nI j).toNatClampNeg = 3
    · exact ⟨1, by rw [if_neg (by decide), if_pos h3]; rfl, Or.inl ⟨rfl, h, h3⟩⟩
    · exact ⟨0, by rw [if_neg (by decide), if_neg h3]; rfl, Or.inr ⟨rfl, fun w => h3 w.2⟩⟩
  · exact ⟨0, by rw [b1_neg h]; rfl, Or.inr ⟨rfl, fun w => h w.1⟩⟩
theorem SPworstAt (n : Nat) : SP_worstAt n Inv := by
  intro a st hI
  obtain ⟨N, R, hP, hR, hT, hF, hTo, hL, hV, ⟨k, hk, ek, ek', hrow⟩, hLe⟩ := id hI
  by_cases h : 0 ≤ a ∧ a < nI k
  · obtain ⟨j, hj, rfl⟩ := st_of (by omega) h
    refine ⟨st.1 52 j, st, st, ?_, ?_, hI⟩
    · simp only [fX10_worstAt, fX10_worstAt_s0, fX10_worstAt_s4, fX10_worstAt_s12, fX10_worstAt_s22, ek]
      rw [if_neg (le_of_nlt32.mpr h.1), if_neg (fun w => absurd h.2 (le_of_nlt32.mpr w)), inb_nI (show j < 6 by omega) (by decide), nI_clamp (by omega)]
      rfl
    · simp only [fX11_worstAt, fX11_worstAt_s0, fX11_worstAt_s13, fX11_worstAt_s16, fX11_worstAt_s26, ek']
      rw [pinl (lo := 0) (hi := nI k - 1) (by decide) rfl, b1_pos ((pm1 (by omega) _ _).mpr h)]
      simp only [Option.bind_some, inb_nI (show j < 6 by omega) (by decide), nI_clamp (show j < 2 ^ 31 by omega), hrow j hj]
      rfl
  · refine ⟨-1, st, st, ?_, ?_, hI⟩
    · simp only [fX10_worstAt, fX10_worstAt_s0, fX10_worstAt_s4, fX10_worstAt_s21, fX10_worstAt_s22, ek]
      by_cases h1 : a < 0
      · rw [if_pos h1]
      · rw [if_neg h1, if_pos (Classical.byContradiction fun w => h ⟨le_of_nlt32.mp h1, Classical.byContradiction fun q => w (le_of_nlt32.mp q)⟩)]
    · simp only [fX11_worstAt, fX11_worstAt_s0, fX11_worstAt_s13, fX11_worstAt_s25, fX11_worstAt_s26, ek']
      rw [pinl (lo := 0) (hi := nI k - 1) (by decide) rfl, b1_neg (fun w => h ((pm1 (by omega) _ _).mp w))]
      rfl
theorem SPuse (n : Nat) : SP_use n Inv := by
  intro a r st hI
  obtain ⟨N, R, hP, hR, hT, hF, hTo, hL, hV, hW, hLe⟩ := id hI
  obtain ⟨h8, e9, e0, hrows, hal, hfs, hsh, hst⟩ := id hP
  obtain ⟨hR12, eR, eR', hrl⟩ := id hR
  by_cases h : 0 ≤ a ∧ a < nI N
  · obtain ⟨s, hs, rfl⟩ := st_of (by omega) h
    by_cases hr : r = -1 ∨ (0 ≤ r ∧ r < nI R)
    · refine ⟨st.1 10 s, setI st 10 s r, setI (setI st 10 s r) 139 s r, ?_, ?_, ?_⟩
      · simp only [fX10_use, fX10_use_s0, phas, Option.bind_some, e9, b1_pos h, fX10_use_s8]
        have e30 : fX10_use_s30 n (nI s) r st = some (st.1 10 s, setI st 10 s r) := by
          simp only [fX10_use_s30, fX10_use_s50, inb_nI (show s < 8 by omega) (by decide), nI_clamp (show s < 2 ^ 31 by omega), if_true]
        rw [if_neg (by decide)]
        simp only [fX10_use_s11, fX10_use_s16, phasR, Option.bind_some, eR, fX10_use_s24, e30]
        rcases hr with rfl | hr
        · rfl
        · rw [b1_pos hr, if_neg (show ¬ (1 : Int32) = 0 by decide)]
          by_cases q : r = -1
          · rw [if_pos q]
          · rw [if_neg q]
      · have e29 : fX11_use_s29 n (nI s) r (setI st 10 s r) = some (st.1 10 s, setI (setI st 10 s r) 139 s r) := by
          simp only [fX11_use_s29, fX11_use_s43, inb_nI (show s < 8 by omega) (by decide), nI_clamp (show s < 2 ^ 31 by omega), if_true]
          rw [sI_o (by decide), hrows.2.2.2.2.2.2.2.2]
        simp only [fX11_use, fX11_use_s0, pstage n (nI s) (setI st 10 s r) (N := N) (by rw [sI_o (by decide)]; exact e0) h8, Option.bind_some, b1_pos h, fX11_use_s5, fX11_use_s8, fX11_use_s23]
        rw [sI_o (by decide), eR', pinl (lo := -1) (hi := nI R - 1) (by decide) rfl, b1_pos ((pm1 (by omega) _ _).mpr (show -1 ≤ r ∧ r < nI R by
          rcases hr with rfl | hr
          · refine ⟨by decide, ?_⟩
            rw [Int32.lt_iff_toInt_lt, nI_toInt (by omega)]
            have : (-1 : Int32).toInt = -1 := rfl
            omega
          · refine ⟨?_, hr.2⟩
            have := hr.1
            rw [Int32.le_iff_toInt_le] at this ⊢
            have e : (-1 : Int32).toInt = -1 := rfl
            have e' : (0 : Int32).toInt = 0 := rfl
            omega))]
        rw [if_neg (by decide)]
        simp only [Option.bind_some]
        rw [if_neg (by decide), e29]
      · have hsm : Same [(10, none), (139, none)] [] st (setI (setI st 10 s r) 139 s r) := same_2I (Or.inl (mm2 0 rfl)) (Or.inl (mm2 1 rfl))
        refine ⟨N, R, ?_, RulesI_same hsm rfl rfl hR, TapeI_same hsm rfl rfl hT, FlowI_same hsm rfl rfl hF, ToldI_same hsm rfl rfl hTo, LineI_same hsm rfl rfl hL, LevI_same hsm rfl rfl hV, WorstI_same hsm rfl rfl hW, LetI_same hsm rfl rfl hLe⟩
        unfold PlanI
        simp (config := { decide := true }) only [sI_o, sI_row, sI_2, ne_eq, not_false_eq_true]
        refine ⟨h8, e9, e0, ⟨hrows.1, hrows.2.1, hrows.2.2.1, hrows.2.2.2.1, hrows.2.2.2.2.1, hrows.2.2.2.2.2.1, hrows.2.2.2.2.2.2.1, hrows.2.2.2.2.2.2.2.1, ?_⟩, hal, hfs, hsh, ?_⟩
        · rw [hrows.2.2.2.2.2.2.2.2]
        · intro t ht
          obtain ⟨g1, g2, g3, g4, g5, g6, g7, g8, g9⟩ := hst t ht
          refine ⟨g1, g2, g3, g4, g5, g6, g7, g8, ?_⟩
          by_cases q : t = s
          · subst q
            rw [pk_us]
            rcases hr with rfl | hr
            · exact Or.inl rfl
            · obtain ⟨j, hj, rfl⟩ := st_of (by omega) hr
              exact Or.inr ⟨j, hj, rfl⟩
          · rw [pk_un q]; exact g9
    · refine ⟨-5, st, st, ?_, ?_, hI⟩
      · simp only [fX10_use, fX10_use_s0, phas, Option.bind_some, e9, b1_pos h, fX10_use_s8]
        rw [if_neg (by decide)]
        simp only [fX10_use_s11, fX10_use_s16, phasR, Option.bind_some, eR, fX10_use_s24]
        rw [if_neg (fun w => hr (Or.inl w)), b1_neg (fun w => hr (Or.inr w)), if_pos rfl]
        rfl
      · simp only [fX11_use, fX11_use_s0, pstage n (nI s) st e0 h8, Option.bind_some, b1_pos h, fX11_use_s5, fX11_use_s8, fX11_use_s23]
        rw [eR', pinl (lo := -1) (hi := nI R - 1) (by decide) rfl, b1_neg (fun w => hr (by
          have w := (pm1 (show R < 2 ^ 30 by omega) _ _).mp w
          by_cases q : r = -1
          · exact Or.inl q
          · refine Or.inr ⟨?_, w.2⟩
            have h1 := w.1
            rw [← Int32.toInt_inj] at q
            rw [Int32.le_iff_toInt_le] at h1 ⊢
            have e : (-1 : Int32).toInt = -1 := rfl
            have e' : (0 : Int32).toInt = 0 := rfl
            omega))]
        rfl
  · refine ⟨-5, st, st, ?_, ?_, hI⟩
    · simp only [fX10_use, fX10_use_s0, phas, Option.bind_some, e9, b1_neg h, fX10_use_s8, fX10_use_s27]
      rfl
    · simp only [fX11_use, fX11_use_s0, pstage n a st e0 h8, Option.bind_some, b1_neg h, fX11_use_s5, fX11_use_s26]
      rfl
theorem SPdemand (n : Nat) : SP_demand n Inv := by
  intro a d st hI
  obtain ⟨N, R, hP, hR, hT, hF, hTo, hL, hV, hW, hLe⟩ := id hI
  obtain ⟨h8, e9, e0, hrows, hal, hfs, hsh, hst⟩ := id hP
  obtain ⟨b, eb, hb⟩ := pshop n a st h8 e9
  rcases hb with ⟨rfl, hsp⟩ | ⟨rfl, hsp⟩
  · obtain ⟨s, hs, rfl⟩ := st_of (by omega) hsp.1
    by_cases hd : 0 ≤ d ∧ d ≤ 999
    · obtain ⟨v, hv, rfl⟩ := nI_of2 (M := 999) (n := 999) rfl (le_of_nlt32.mpr hd.1) hd.2
      refine ⟨st.1 50 s, setI st 50 s (nI v), setI (setI st 50 s (nI v)) 140 s (nI v), ?_, ?_, ?_⟩
      · simp only [fX10_demand, fX10_demand_s0, eb, Option.bind_some, fX10_demand_s8, fX10_demand_s13, pw, b1_pos hd, fX10_demand_s21, fX10_demand_s27, fX10_demand_s41, inb_nI (show s < 8 by omega) (by decide), nI_clamp (show s < 2 ^ 31 by omega), if_true]
        rfl
      · obtain ⟨b', eb', hb'⟩ := pshopM n (nI s) (setI st 50 s (nI v)) (N := N) h8 (by rw [sI_o (by decide)]; exact e0) (by rw [sI_o (by decide), sI_o (by decide)]; exact hrows.1)
        have hsp' : shopP (setI st 50 s (nI v)) N (nI s) := ⟨hsp.1, by rw [sI_o (by decide)]; exact hsp.2⟩
        rcases hb' with ⟨rfl, -⟩ | ⟨-, w⟩
        · simp only [fX11_demand, fX11_demand_s0, eb', Option.bind_some, fX11_demand_s5, fX11_demand_s10, pinl (lo := 0) (hi := 999) (lo' := 0) (hi' := 999) (by decide) (by decide), b1_pos hd, fX11_demand_s19, fX11_demand_s25, fX11_demand_s39, inb_nI (show s < 8 by omega) (by decide), nI_clamp (show s < 2 ^ 31 by omega), if_true]
          rw [sI_o (by decide), (hTo.1 s (by omega)).1]
          rfl
        · exact absurd hsp' w
      · have hsm : Same [(50, none), (140, none)] [] st (setI (setI st 50 s (nI v)) 140 s (nI v)) := same_2I (Or.inl (mm2 0 rfl)) (Or.inl (mm2 1 rfl))
        refine ⟨N, R, PlanI_same hsm rfl rfl hP, RulesI_same hsm rfl rfl hR, TapeI_same hsm rfl rfl hT, FlowI_same hsm rfl rfl hF, ?_, LineI_same hsm rfl rfl hL, LevI_same hsm rfl rfl hV, WorstI_same hsm rfl rfl hW, LetI_same hsm rfl rfl hLe⟩
        unfold ToldI
        simp (config := { decide := true }) only [sI_o, sI_row, sI_2, ne_eq, not_false_eq_true]
        refine ⟨fun t ht => ?_, hTo.2⟩
        obtain ⟨g1, g2, g3⟩ := hTo.1 t ht
        by_cases q : t = s
        · subst q
          rw [pk_us, pk_us]
          exact ⟨rfl, ⟨v, hv, rfl⟩, fun w => by omega⟩
        · rw [pk_un q, pk_un q]; exact ⟨g1, g2, g3⟩
    · refine ⟨-2, st, st, ?_, ?_, hI⟩
      · simp only [fX10_demand, fX10_demand_s0, eb, Option.bind_some, fX10_demand_s8, fX10_demand_s13, pw, b1_neg hd, fX10_demand_s21, fX10_demand_s24]
        rfl
      · obtain ⟨b', eb', hb'⟩ := pshopM n (nI s) st (N := N) h8 e0 hrows.1
        rcases hb' with ⟨rfl, -⟩ | ⟨-, w⟩
        · simp only [fX11_demand, fX11_demand_s0, eb', Option.bind_some, fX11_demand_s5, fX11_demand_s10, pinl (lo := 0) (hi := 999) (lo' := 0) (hi' := 999) (by decide) (by decide), b1_neg hd, fX11_demand_s19, fX11_demand_s22]
          rfl
        · exact absurd hsp w
  · refine ⟨-1, st, st, ?_, ?_, hI⟩
    · simp only [fX10_demand, fX10_demand_s0, eb, Option.bind_some, fX10_demand_s8, fX10_demand_s11]
      rfl
    · obtain ⟨b', eb', hb'⟩ := pshopM n a st (N := N) h8 e0 hrows.1
      rcases hb' with ⟨-, w⟩ | ⟨rfl, -⟩
      · exact absurd w hsp
      · simp only [fX11_demand, fX11_demand_s0, eb', Option.bind_some, fX11_demand_s5, fX11_demand_s8]
        rfl
