/-- the tape, as feed() makes it longer: a byte more -/
theorem feed_loop (n : Nat) (v : Int64) : ∀ (k j T : Nat) (st : St), j < k → j ≤ 8 → T + j ≤ 120 → st.1 15 2 = nI T → (∀ i, i < T → ∃ u, u ≤ 255 ∧ st.1 16 i = nI u) →
    ∃ st1, fX10_feed_L35 n k v (nI j - 1) st = some (nI (T + j), st1) ∧ Same [(16, none), (15, some 2)] [] st st1 ∧ st1.1 15 2 = nI (T + j) ∧ (∀ i, i < T → st1.1 16 i = st.1 16 i) ∧ (∀ i, i < j → ∃ b, b ≤ 255 ∧ st1.1 16 (T + i) = nI b ∧ ((v >>> (((8 : Int32) * nI (j - 1 - i)).toInt64 &&& 63)) &&& 255).toInt32 = nI b) := by
  intro k
  induction k with
  | zero => intro j T st h; omega
  | succ k ih =>
    intro j T st hk hj hT eT hbt
    simp only [fX10_feed_L35, fX10_feed_s35]
    cases j with
    | zero =>
      refine ⟨st, ?_, Same.rf, by rw [eT]; rfl, fun _ _ => rfl, fun i hi => by omega⟩
      rw [if_pos (show nI 0 - 1 < 0 by decide)]
      simp only [fX10_feed_s65, eT]
      rfl
    | succ j =>
      rw [nI_pred, if_neg (nI_pos (by omega))]
      obtain ⟨b, hb, e1, e2⟩ := by_both v j (by omega)
      simp only [fX10_feed_s40, e1]
      have ea : fX9_append n (nI b) st = some ((), setI (setI st 16 T (nI b)) 15 2 (nI (T + 1))) := by
        simp only [fX9_append, fX9_append_s0, eT]
        rw [if_neg (show ¬ (120 : Int32) ≤ nI T from nI_ge (b := 120) (by omega) (by decide))]
        simp only [fX9_append_s12, fX9_append_s22, fX9_append_s32, eT, inb_nI (show T < 120 by omega) (by decide), nI_clamp (show T < 2 ^ 31 by omega), if_true]
        rw [sI_o (by decide), eT, nI_1]
      rw [ea]
      simp only [Option.bind_some, fX10_feed_s59]
      obtain ⟨st1, g1, g2, g3, g4, g5⟩ := ih j (T + 1) (setI (setI st 16 T (nI b)) 15 2 (nI (T + 1))) (by omega) (by omega) (by omega) sI_at (fun i hi => by
        rw [sI_o (by decide), sI_row]
        by_cases q : i = T
        · subst q; rw [pk_us]; exact ⟨b, hb, rfl⟩
        · rw [pk_un q]; exact hbt i (by omega))
      refine ⟨st1, ?_, (same_2I (Or.inl (mm2 0 rfl)) (Or.inr (mm2 1 rfl))).trans g2, by rw [g3]; congr 1; omega, fun i hi => ?_, fun i hi => ?_⟩
      · rw [show nI j + (-1) = nI j - 1 from by rw [Int32.sub_eq_add_neg], g1]
        congr 2
        congr 1
        omega
      · rw [g4 i (by omega), sI_o (by decide), sI_k (by omega)]
      · by_cases q : i = 0
        · subst q
          refine ⟨b, hb, ?_, e2⟩
          rw [Nat.add_zero, g4 T (by omega), sI_o (by decide), sI_at]
        · obtain ⟨b', hb', x1, x2⟩ := g5 (i - 1) (by omega)
          refine ⟨b', hb', ?_, ?_⟩
          · rw [← x1, show T + i = T + 1 + (i - 1) by omega]
          · rw [← x2, show j + 1 - 1 - i = j - 1 - (i - 1) by omega]
theorem feed_loopM (n : Nat) (v : Int64) : ∀ (k j T : Nat) (st : St), j < k → j ≤ 8 → T + j ≤ 120 → st.1 130 32 = nI T →
    ∃ st1, fX11_feed_L34 n k v (nI j - 1) st = some (nI (T + j), st1) ∧ Same [(155, none), (130, some 32)] [] st st1 ∧ st1.1 130 32 = nI (T + j) ∧ (∀ i, i < T → st1.1 155 i = st.1 155 i) ∧ (∀ i, i < j → st1.1 155 (T + i) = ((v >>> (((8 : Int32) * nI (j - 1 - i)).toInt64 &&& 63)) &&& 255).toInt32) := by
  intro k
  induction k with
  | zero => intro j T st h; omega
  | succ k ih =>
    intro j T st hk hj hT eT
    simp only [fX11_feed_L34, fX11_feed_s34]
    cases j with
    | zero =>
      refine ⟨st, ?_, Same.rf, by rw [eT]; rfl, fun _ _ => rfl, fun i hi => by omega⟩
      rw [if_pos (show nI 0 - 1 < 0 by decide)]
      simp only [fX11_feed_s76, eT]
      rfl
    | succ j =>
      rw [nI_pred, if_neg (nI_pos (by omega))]
      simp only [fX11_feed_s39, fX11_feed_s60, fX11_feed_s70, eT, inb_nI (show T < 120 by omega) (by decide), nI_clamp (show T < 2 ^ 31 by omega), if_true]
      obtain ⟨x, ex⟩ : ∃ x, x = ((v >>> (((8 : Int32) * nI j).toInt64 &&& 63)) &&& 255).toInt32 := ⟨_, rfl⟩
      rw [← ex, sI_o (by decide), eT, nI_1]
      obtain ⟨st1, g1, g2, g3, g4, g5⟩ := ih j (T + 1) (setI (setI st 155 T x) 130 32 (nI (T + 1))) (by omega) (by omega) (by omega) sI_at
      refine ⟨st1, ?_, (same_2I (Or.inl (mm2 0 rfl)) (Or.inr (mm2 1 rfl))).trans g2, by rw [g3]; congr 1; omega, fun i hi => ?_, fun i hi => ?_⟩
      · rw [show nI j + (-1) = nI j - 1 from by rw [Int32.sub_eq_add_neg], g1]
        congr 2
        congr 1
        omega
      · rw [g4 i (by omega), sI_o (by decide), sI_k (by omega)]
      · by_cases q : i = 0
        · subst q
          rw [Nat.add_zero, g4 T (by omega), sI_o (by decide), sI_at, ex]
          rfl
        · have x1 := g5 (i - 1) (by omega)
          rw [show j + 1 - 1 - i = j - 1 - (i - 1) by omega, ← x1, show T + i = T + 1 + (i - 1) by omega]
theorem SPfeed (n : Nat) (hn : 100 ≤ n) : SP_feed n Inv := by
  intro v a st hI
  obtain ⟨N, R, hP, hR, ⟨T, hT, eT, eT', hbt⟩, hF, hTo, hL, hV, hW, hLe⟩ := id hI
  by_cases h : 1 ≤ a ∧ a ≤ 8
  · obtain ⟨j, hj, rfl⟩ := nI_of2 (M := 8) (n := 8) rfl (le_of_nlt32.mpr (Int32.le_trans (by decide) h.1)) h.2
    have ec : fX10_feed n v (nI j) st = fX10_feed_s13 n v (nI j) st := by
      simp only [fX10_feed, fX10_feed_s0, pw, Option.bind_some, b1_pos h, fX10_feed_s7]; rfl
    have em : ∀ st', st'.1 130 32 = nI T → fX11_feed n v (nI j) st' = fX11_feed_s15 n v (nI j) st' := by
      intro st' _
      simp only [fX11_feed, fX11_feed_s0, pinl (lo := 1) (hi := 8) (lo' := 1) (hi' := 8) (by decide) (by decide), Option.bind_some, b1_pos h, fX11_feed_s9]; rfl
    by_cases hl : T + j ≤ 120
    · obtain ⟨st1, g1, g2, g3, g4, g5⟩ := feed_loop n v n j T st (by omega) hj hl eT (fun i hi => (hbt i hi).2)
      have e32 : st1.1 130 32 = nI T := (g2.1 130 32 (okL_fld (rows := []) (flds := [(130, 32)]) (L := [(16, none), (15, some 2)]) rfl (p := (130, 32)) (by decide))).trans eT'
      obtain ⟨st2, k1, k2, k3, k4, k5⟩ := feed_loopM n v n j T st1 (by omega) hj hl e32
      refine ⟨nI (T + j), st1, st2, ?_, ?_, ?_⟩
      · rw [ec]
        simp only [fX10_feed_s13, fX10_feed_s30, eT]
        rw [nI_add, if_pos (show nI (T + j) ≤ 120 from nI_le (b := 120) hl (by decide)), g1]
      · rw [em st1 e32]
        simp only [fX11_feed_s15, fX11_feed_s29, e32]
        rw [nI_add, if_pos (show nI (T + j) ≤ 120 from nI_le (b := 120) hl (by decide)), k1]
      · have hs : Same [(16, none), (15, some 2), (155, none), (130, some 32)] [] st st2 := (g2.mono (by decide) (by decide)).trans (k2.mono (by decide) (by decide))
        refine ⟨N, R, PlanI_same hs rfl rfl hP, RulesI_same hs rfl rfl hR, ?_, FlowI_same hs rfl rfl hF, ToldI_same hs rfl rfl hTo, LineI_same hs rfl rfl hL, LevI_same hs rfl rfl hV, WorstI_same hs rfl rfl hW, LetI_same hs rfl rfl hLe⟩
        have r16 : st2.1 16 = st1.1 16 := funext fun i => k2.1 16 i (okL_row (rows := [16]) (flds := []) (L := [(155, none), (130, some 32)]) rfl (by decide))
        have r155 : st1.1 155 = st.1 155 := funext fun i => g2.1 155 i (okL_row (rows := [155]) (flds := []) (L := [(16, none), (15, some 2)]) rfl (by decide))
        have e15 : st2.1 15 2 = st1.1 15 2 := k2.1 15 2 (okL_fld (rows := []) (flds := [(15, 2)]) (L := [(155, none), (130, some 32)]) rfl (p := (15, 2)) (by decide))
        refine ⟨T + j, hl, by rw [e15]; exact g3, k3, fun i hi => ?_⟩
        rw [r16]
        by_cases q : i < T
        · rw [k4 i q, r155, g4 i q]
          exact hbt i q
        · obtain ⟨b, hb, x1, x2⟩ := g5 (i - T) (by omega)
          have y := k5 (i - T) (by omega)
          rw [show T + (i - T) = i by omega] at x1 y
          rw [x1, y, x2]
          exact ⟨rfl, b, hb, rfl⟩
    · refine ⟨-4, st, st, ?_, ?_, hI⟩
      · rw [ec]
        simp only [fX10_feed_s13, fX10_feed_s27, eT]
        rw [nI_add, if_neg (show ¬ nI (T + j) ≤ 120 from nI_ge (a := 120) (by omega) (by omega))]
      · rw [em st eT']
        simp only [fX11_feed_s15, fX11_feed_s26, eT']
        rw [nI_add, if_neg (show ¬ nI (T + j) ≤ 120 from nI_ge (a := 120) (by omega) (by omega))]
  · refine ⟨-2, st, st, ?_, ?_, hI⟩
    · simp only [fX10_feed, fX10_feed_s0, pw, Option.bind_some, b1_neg h, fX10_feed_s7, fX10_feed_s10]; rfl
    · simp only [fX11_feed, fX11_feed_s0, pinl (lo := 1) (hi := 8) (lo' := 1) (hi' := 8) (by decide) (by decide), Option.bind_some, b1_neg h, fX11_feed_s9, fX11_feed_s12]; rfl
