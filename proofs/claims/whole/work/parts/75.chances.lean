/-! ===== chances ===== -/
theorem dec10 (r : Nat) (h : r ≤ 99999) : nI r - nI r / 10 * 10 = nI (r % 10) ∧ nI r / 10 = nI (r / 10) := ⟨pk_rem (d := 10) (by omega) (by decide) (by decide), pk_div (d := 10) (by omega) (by decide) (by decide)⟩
theorem chances_c (n r : Nat) (st : St) (h : r ≤ 99999) (hn : 10 ≤ n) : fX10_chances_L18 n n (nI r) 4 st = some (0, setI (setI (setI (setI (setI st 38 4 (nI (r % 10))) 38 3 (nI (r / 10 % 10))) 38 2 (nI (r / 10 / 10 % 10))) 38 1 (nI (r / 10 / 10 / 10 % 10))) 38 0 (nI (r / 10 / 10 / 10 / 10 % 10))) := by
  obtain ⟨m, rfl⟩ : ∃ m, n = m + 6 := ⟨n - 6, by omega⟩
  simp (config := { decide := true }) only [fX10_chances_L18, fX10_chances_s18, fX10_chances_s22, fX10_chances_s35, fX10_chances_s46, (dec10 r (by omega)).1, (dec10 r (by omega)).2, (dec10 (r / 10) (by omega)).1, (dec10 (r / 10) (by omega)).2, (dec10 (r / 10 / 10) (by omega)).1, (dec10 (r / 10 / 10) (by omega)).2, (dec10 (r / 10 / 10 / 10) (by omega)).1, (dec10 (r / 10 / 10 / 10) (by omega)).2, (dec10 (r / 10 / 10 / 10 / 10) (by omega)).1, (dec10 (r / 10 / 10 / 10 / 10) (by omega)).2, if_true, if_false]
  rfl
theorem chances_m (n r : Nat) (st : St) (h : r ≤ 99999) (hn : 10 ≤ n) : fX11_chances_L19 n n (nI r) 4 st = some (0, setI (setI (setI (setI (setI st 165 4 (nI (r % 10))) 165 3 (nI (r / 10 % 10))) 165 2 (nI (r / 10 / 10 % 10))) 165 1 (nI (r / 10 / 10 / 10 % 10))) 165 0 (nI (r / 10 / 10 / 10 / 10 % 10))) := by
  obtain ⟨m, rfl⟩ : ∃ m, n = m + 6 := ⟨n - 6, by omega⟩
  simp (config := { decide := true }) only [fX11_chances_L19, fX11_chances_s19, fX11_chances_s23, fX11_chances_s33, fX11_chances_s44, (dec10 r (by omega)).1, (dec10 r (by omega)).2, (dec10 (r / 10) (by omega)).1, (dec10 (r / 10) (by omega)).2, (dec10 (r / 10 / 10) (by omega)).1, (dec10 (r / 10 / 10) (by omega)).2, (dec10 (r / 10 / 10 / 10) (by omega)).1, (dec10 (r / 10 / 10 / 10) (by omega)).2, (dec10 (r / 10 / 10 / 10 / 10) (by omega)).1, (dec10 (r / 10 / 10 / 10 / 10) (by omega)).2, if_true, if_false]
  rfl
theorem SPchances (n : Nat) (hn : 100 ≤ n) : SP_chances n Inv := by
  intro a st hI
  obtain ⟨N, R, hP, hR, hT, hF, hTo, hL, hV, hW, hLe⟩ := id hI
  by_cases h : 1 ≤ a ∧ a ≤ 99999
  · obtain ⟨r, hr, rfl⟩ := nI_of2 (M := 99999) (n := 99999) rfl (le_of_nlt32.mpr (Int32.le_trans (by decide) h.1)) h.2
    have e1 := chances_c n r st hr (by omega)
    refine ⟨0, _, _, ?_, ?_, ?_⟩
    · simp only [fX10_chances, fX10_chances_s0, pw, Option.bind_some, b1_pos h, fX10_chances_s8, fX10_chances_s14]
      exact e1
    · simp only [fX11_chances, fX11_chances_s0, pinl (lo := 1) (hi := 99999) (lo' := 1) (hi' := 99999) (by decide) (by decide), Option.bind_some, b1_pos h, fX11_chances_s9, fX11_chances_s15]
      exact chances_m n r _ hr (by omega)
    · generalize est : setI (setI (setI (setI (setI (setI (setI (setI (setI (setI st 38 4 (nI (r % 10))) 38 3 (nI (r / 10 % 10))) 38 2 (nI (r / 10 / 10 % 10))) 38 1 (nI (r / 10 / 10 / 10 % 10))) 38 0 (nI (r / 10 / 10 / 10 / 10 % 10))) 165 4 (nI (r % 10))) 165 3 (nI (r / 10 % 10))) 165 2 (nI (r / 10 / 10 % 10))) 165 1 (nI (r / 10 / 10 / 10 % 10))) 165 0 (nI (r / 10 / 10 / 10 / 10 % 10)) = st2
      have hs : Same [(38, none), (165, none)] [] st st2 := by
        rw [← est]
        exact ((((((((((same_I (Or.inl (mm2 0 rfl))).trans (same_I (Or.inl (mm2 0 rfl)))).trans (same_I (Or.inl (mm2 0 rfl)))).trans (same_I (Or.inl (mm2 0 rfl)))).trans (same_I (Or.inl (mm2 0 rfl)))).trans (same_I (Or.inl (mm2 1 rfl)))).trans (same_I (Or.inl (mm2 1 rfl)))).trans (same_I (Or.inl (mm2 1 rfl)))).trans (same_I (Or.inl (mm2 1 rfl)))).trans (same_I (Or.inl (mm2 1 rfl))))
      refine ⟨N, R, PlanI_same hs rfl rfl hP, RulesI_same hs rfl rfl hR, TapeI_same hs rfl rfl hT, FlowI_same hs rfl rfl hF, ToldI_same hs rfl rfl hTo, LineI_same hs rfl rfl hL, ?_, WorstI_same hs rfl rfl hW, LetI_same hs rfl rfl hLe⟩
      intro d hd
      rw [← est]
      match d, hd with
      | 0, _ => simp (config := { decide := true }) only [sI_o, sI_k, sI_at, ne_eq, not_false_eq_true]; exact ⟨trivial, _, by omega, rfl⟩
      | 1, _ => simp (config := { decide := true }) only [sI_o, sI_k, sI_at, ne_eq, not_false_eq_true]; exact ⟨trivial, _, by omega, rfl⟩
      | 2, _ => simp (config := { decide := true }) only [sI_o, sI_k, sI_at, ne_eq, not_false_eq_true]; exact ⟨trivial, _, by omega, rfl⟩
      | 3, _ => simp (config := { decide := true }) only [sI_o, sI_k, sI_at, ne_eq, not_false_eq_true]; exact ⟨trivial, _, by omega, rfl⟩
      | 4, _ => simp (config := { decide := true }) only [sI_o, sI_k, sI_at, ne_eq, not_false_eq_true]; exact ⟨trivial, _, by omega, rfl⟩
  · refine ⟨-2, st, st, ?_, ?_, hI⟩
    · simp only [fX10_chances, fX10_chances_s0, pw, Option.bind_some, b1_neg h, fX10_chances_s8, fX10_chances_s11]; rfl
    · simp only [fX11_chances, fX11_chances_s0, pinl (lo := 1) (hi := 99999) (lo' := 1) (hi' := 99999) (by decide) (by decide), Option.bind_some, b1_neg h, fX11_chances_s9, fX11_chances_s12]; rfl
