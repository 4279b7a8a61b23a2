/-! ===== the small methods ===== -/
theorem SPallot (n : Nat) : SP_allot n Inv := by
  intro a st hI
  obtain ⟨N, R, hP, hR, hT, hF, hTo, hL, hV, hW, hLe⟩ := id hI
  obtain ⟨h8, e9, e0, hrows, ⟨h, h2, eh, eh'⟩, hfs, hsh, hst⟩ := id hP
  by_cases ha : 0 ≤ a ∧ a ≤ 2
  · obtain ⟨k, hk, rfl⟩ := nI_of2 (M := 2) (n := 2) rfl (le_of_nlt32.mpr ha.1) ha.2
    refine ⟨nI h, setI st 1 11 (nI k), setI (setI st 1 11 (nI k)) 130 10 (nI k), ?_, ?_, ?_⟩
    · simp only [fX10_allot, fX10_allot_s0, fX10_allot_s6, fX10_allot_s12, fX10_allot_s28, pw, Option.bind_some, b1_pos ha, eh]
      rfl
    · simp only [fX11_allot, fX11_allot_s0, fX11_allot_s9, fX11_allot_s15, fX11_allot_s25]
      rw [show (0 : Int64) = (0 : Int32).toInt64 from by decide, show (2 : Int64) = (2 : Int32).toInt64 from by decide, pin32]
      simp only [Option.bind_some, b1_pos ha]
      rw [sI_o (by decide), eh']
      rfl
    · have hs : Same [(1, some 11), (130, some 10)] [] st (setI (setI st 1 11 (nI k)) 130 10 (nI k)) := same_2I (Or.inr (mm2 0 rfl)) (Or.inr (mm2 1 rfl))
      refine ⟨N, R, ?_, RulesI_same hs rfl rfl hR, TapeI_same hs rfl rfl hT, FlowI_same hs rfl rfl hF, ToldI_same hs rfl rfl hTo, LineI_same hs rfl rfl hL, LevI_same hs rfl rfl hV, WorstI_same hs rfl rfl hW, LetI_same hs rfl rfl hLe⟩
      unfold PlanI
      simp (config := { decide := true }) only [sI_o, sI_k, sI_at, sI_2, ne_eq, not_false_eq_true]
      exact ⟨h8, e9, e0, hrows, ⟨k, hk, rfl, rfl⟩, hfs, hsh, hst⟩
  · refine ⟨-2, st, st, ?_, ?_, hI⟩
    · simp only [fX10_allot, fX10_allot_s0, fX10_allot_s6, fX10_allot_s9, pw, Option.bind_some, b1_neg ha]
      rfl
    · simp only [fX11_allot, fX11_allot_s0, fX11_allot_s9, fX11_allot_s12]
      rw [show (0 : Int64) = (0 : Int32).toInt64 from by decide, show (2 : Int64) = (2 : Int32).toInt64 from by decide, pin32]
      simp only [Option.bind_some, b1_neg ha]
      rfl
