/-! ===== chances ===== -/
theorem dec10 (r : Nat) (h : r ≤ 99999) : nI r / 10 = nI (r / 10) ∧ nI r - nI (r / 10) * 10 = nI (r % 10) := by
  have h1 : nI r / 10 = nI (r / 10) := pk_div (d := 10) (by omega) (by decide) (by decide)
  have h2 : nI r - nI r / 10 * 10 = nI (r % 10) := pk_rem (d := 10) (by omega) (by decide) (by decide)
  rw [h1] at h2
  exact ⟨h1, h2⟩
def wts (st : St) (o r : Nat) : St := setI (setI (setI (setI (setI st o 4 (nI (r % 10))) o 3 (nI (r / 10 % 10))) o 2 (nI (r / 10 / 10 % 10))) o 1 (nI (r / 10 / 10 / 10 % 10))) o 0 (nI (r / 10 / 10 / 10 / 10 % 10))
theorem wts_same (st : St) (o r : Nat) {L : List (Nat × Option Nat)} (h : (o, none) ∈ L) : Same L [] st (wts st o r) := ((((same_I (Or.inl h)).trans (same_I (Or.inl h))).trans (same_I (Or.inl h))).trans (same_I (Or.inl h))).trans (same_I (Or.inl h))
theorem wts_at (st : St) (o r : Nat) : ∀ d, d < 5 → (wts st o r).1 o d = nI ([r / 10 / 10 / 10 / 10 % 10, r / 10 / 10 / 10 % 10, r / 10 / 10 % 10, r / 10 % 10, r % 10].getD d 0) := by
  intro d hd
  unfold wts
  match d, hd with
  | 0, _ => simp (config := { decide := true }) only [sI_k, sI_at, ne_eq, not_false_eq_true]; rfl
  | 1, _ => simp (config := { decide := true }) only [sI_k, sI_at, ne_eq, not_false_eq_true]; rfl
  | 2, _ => simp (config := { decide := true }) only [sI_k, sI_at, ne_eq, not_false_eq_true]; rfl
  | 3, _ => simp (config := { decide := true }) only [sI_k, sI_at, ne_eq, not_false_eq_true]; rfl
  | 4, _ => simp (config := { decide := true }) only [sI_k, sI_at, ne_eq, not_false_eq_true]; rfl
theorem chances_c (n r : Nat) (st : St) (h : r ≤ 99999) (hn : 10 ≤ n) : fX10_chances_L18 n n (nI r) 4 st = some (0, wts st 38 r) := by
  have key : ∀ k, fX10_chances_L18 n (k + 6) (nI r) 4 st = some (0, wts st 38 r) := by
    intro k
    simp (config := { decide := true }) only [fX10_chances_L18, fX10_chances_s18, fX10_chances_s22, fX10_chances_s35, fX10_chances_s46, (dec10 r (by omega)).1, (dec10 r (by omega)).2, (dec10 (r / 10) (by omega)).1, (dec10 (r / 10) (by omega)).2, (dec10 (r / 10 / 10) (by omega)).1, (dec10 (r / 10 / 10) (by omega)).2, (dec10 (r / 10 / 10 / 10) (by omega)).1, (dec10 (r / 10 / 10 / 10) (by omega)).2, (dec10 (r / 10 / 10 / 10 / 10) (by omega)).1, (dec10 (r / 10 / 10 / 10 / 10) (by omega)).2, if_true, if_false]
    rfl
  have := key (n - 6)
  rwa [show n - 6 + 6 = n by omega] at this
theorem chances_m (n r : Nat) (st : St) (h : r ≤ 99999) (hn : 10 ≤ n) : fX11_chances_L19 n n (nI r) 4 st = some (0, wts st 165 r) := by
  have key : ∀ k, fX11_chances_L19 n (k + 6) (nI r) 4 st = some (0, wts st 165 r) := by
    intro k
    simp (config := { decide := true }) only [fX11_chances_L19, fX11_chances_s19, fX11_chances_s23, fX11_chances_s33, fX11_chances_s44, (dec10 r (by omega)).1, (dec10 r (by omega)).2, (dec10 (r / 10) (by omega)).1, (dec10 (r / 10) (by omega)).2, (dec10 (r / 10 / 10) (by omega)).1, (dec10 (r / 10 / 10) (by omega)).2, (dec10 (r / 10 / 10 / 10) (by omega)).1, (dec10 (r / 10 / 10 / 10) (by omega)).2, (dec10 (r / 10 / 10 / 10 / 10) (by omega)).1, (dec10 (r / 10 / 10 / 10 / 10) (by omega)).2, if_true, if_false]
    rfl
  have := key (n - 6)
  rwa [show n - 6 + 6 = n by omega] at this
theorem SPchances (n : Nat) (hn : 100 ≤ n) : SP_chances n Inv := by
  intro a st hI
  obtain ⟨N, R, hP, hR, hT, hF, hTo, hL, hV, hW, hLe⟩ := id hI
  by_cases h : 1 ≤ a ∧ a ≤ 99999
  · obtain ⟨r, hr, rfl⟩ := nI_of2 (M := 99999) (n := 99999) rfl (le_of_nlt32.mpr (Int32.le_trans (by decide) h.1)) h.2
    have e1 := chances_c n r st hr (by omega)
    refine ⟨0, wts st 38 r, wts (wts st 38 r) 165 r, ?_, ?_, ?_⟩
    · simp only [fX10_chances, fX10_chances_s0, pw, Option.bind_some, b1_pos h, fX10_chances_s8, fX10_chances_s14]
      exact e1
    · simp only [fX11_chances, fX11_chances_s0, pinl (lo := 1) (hi := 99999) (lo' := 1) (hi' := 99999) (by decide) (by decide), Option.bind_some, b1_pos h, fX11_chances_s9, fX11_chances_s15]
      exact chances_m n r _ hr (by omega)
    · have hs2 : Same [(165, none)] [] (wts st 38 r) (wts (wts st 38 r) 165 r) := wts_same _ _ _ (mm2 0 rfl)
      have hs : Same [(38, none), (165, none)] [] st (wts (wts st 38 r) 165 r) := (wts_same _ _ _ (mm2 0 rfl)).trans (wts_same _ _ _ (mm2 1 rfl))
      refine ⟨N, R, PlanI_same hs rfl rfl hP, RulesI_same hs rfl rfl hR, TapeI_same hs rfl rfl hT, FlowI_same hs rfl rfl hF, ToldI_same hs rfl rfl hTo, LineI_same hs rfl rfl hL, ?_, WorstI_same hs rfl rfl hW, LetI_same hs rfl rfl hLe⟩
      intro d hd
      rw [wts_at _ _ _ d hd, hs2.1 38 d (okL_row (rows := [38]) (flds := []) (L := [(165, none)]) rfl (by decide)), wts_at _ _ _ d hd]
      refine ⟨rfl, _, ?_, rfl⟩
      match d, hd with
      | 0, _ => show r / 10 / 10 / 10 / 10 % 10 ≤ 9; omega
      | 1, _ => show r / 10 / 10 / 10 % 10 ≤ 9; omega
      | 2, _ => show r / 10 / 10 % 10 ≤ 9; omega
      | 3, _ => show r / 10 % 10 ≤ 9; omega
      | 4, _ => show r % 10 ≤ 9; omega
  · refine ⟨-2, st, st, ?_, ?_, hI⟩
    · simp only [fX10_chances, fX10_chances_s0, pw, Option.bind_some, b1_neg h, fX10_chances_s8, fX10_chances_s11]; rfl
    · simp only [fX11_chances, fX11_chances_s0, pinl (lo := 1) (hi := 99999) (lo' := 1) (hi' := 99999) (by decide) (by decide), Option.bind_some, b1_neg h, fX11_chances_s9, fX11_chances_s12]; rfl
