/-! ===== level, levelCost: what is asked, and the answers ===== -/
def UOK (a c : Int32) : Prop := (1 ≤ a / 10 ∧ a / 10 ≤ 3) ∧ (1 ≤ a - a / 10 * 10 ∧ a - a / 10 * 10 ≤ 3) ∧ (1 ≤ c / 1000 ∧ c / 1000 ≤ 9) ∧ (1 ≤ c / 100 - c / 100 / 10 * 10 ∧ c / 100 - c / 100 / 10 * 10 ≤ 9) ∧ (1 ≤ c - c / 100 * 100 ∧ c - c / 100 * 100 ≤ 99)
def stU (a c : Int32) (st : St) : St := setI (setI (setI (setI (setI st 37 5 (a / 10)) 37 6 (a - a / 10 * 10)) 37 7 (c / 1000)) 37 8 (c / 100 - c / 100 / 10 * 10)) 37 9 (c - c / 100 * 100)
theorem stU_5 (a c : Int32) (st : St) : (stU a c st).1 37 5 = a / 10 := by simp (config := { decide := true }) only [stU, sI_k, sI_at, ne_eq, not_false_eq_true]
theorem stU_6 (a c : Int32) (st : St) : (stU a c st).1 37 6 = a - a / 10 * 10 := by simp (config := { decide := true }) only [stU, sI_k, sI_at, ne_eq, not_false_eq_true]
theorem stU_7 (a c : Int32) (st : St) : (stU a c st).1 37 7 = c / 1000 := by simp (config := { decide := true }) only [stU, sI_k, sI_at, ne_eq, not_false_eq_true]
theorem stU_8 (a c : Int32) (st : St) : (stU a c st).1 37 8 = c / 100 - c / 100 / 10 * 10 := by simp (config := { decide := true }) only [stU, sI_k, sI_at, ne_eq, not_false_eq_true]
theorem stU_9 (a c : Int32) (st : St) : (stU a c st).1 37 9 = c - c / 100 * 100 := by simp (config := { decide := true }) only [stU, sI_k, sI_at, ne_eq, not_false_eq_true]
theorem stU_38 (a c : Int32) (st : St) : (stU a c st).1 38 = st.1 38 := by simp (config := { decide := true }) only [stU, sI_o, ne_eq, not_false_eq_true]
theorem c_und1 (n : Nat) (a c : Int32) (st : St) (h : UOK a c) : fX3_understand n a c st = some (1, stU a c st) := by
  show fX3_understand_s44 n (stU a c st) = _
  simp only [fX3_understand_s44, fX3_understand_s53, fX3_understand_s56, fX3_understand_s65, fX3_understand_s68, fX3_understand_s78, fX3_understand_s81, fX3_understand_s91, fX3_understand_s94, fX3_understand_s104, fX3_understand_s107, pw, stU_5, stU_6, stU_7, stU_8, stU_9, Option.bind_some, b1_pos h.1, b1_pos h.2.1, b1_pos h.2.2.1, b1_pos h.2.2.2.1, b1_pos h.2.2.2.2, if_neg (show ¬ (1 : Int32) = 0 by decide)]
  rfl
theorem c_und0 (n : Nat) (a c : Int32) (st : St) (h : ¬ UOK a c) : fX3_understand n a c st = some (0, stU a c st) := by
  show fX3_understand_s44 n (stU a c st) = _
  simp only [fX3_understand_s44, fX3_understand_s53, fX3_understand_s56, fX3_understand_s65, fX3_understand_s68, fX3_understand_s78, fX3_understand_s81, fX3_understand_s91, fX3_understand_s94, fX3_understand_s104, fX3_understand_s107, pw, stU_5, stU_6, stU_7, stU_8, stU_9, Option.bind_some]
  by_cases h1 : 1 ≤ a / 10 ∧ a / 10 ≤ 3
  · rw [b1_pos h1, if_neg (show ¬ (1 : Int32) = 0 by decide)]
    by_cases h2 : 1 ≤ a - a / 10 * 10 ∧ a - a / 10 * 10 ≤ 3
    · rw [b1_pos h2, if_neg (show ¬ (1 : Int32) = 0 by decide)]
      by_cases h3 : 1 ≤ c / 1000 ∧ c / 1000 ≤ 9
      · rw [b1_pos h3, if_neg (show ¬ (1 : Int32) = 0 by decide)]
        by_cases h4 : 1 ≤ c / 100 - c / 100 / 10 * 10 ∧ c / 100 - c / 100 / 10 * 10 ≤ 9
        · rw [b1_pos h4, if_neg (show ¬ (1 : Int32) = 0 by decide), b1_neg (fun h5 => h ⟨h1, h2, h3, h4, h5⟩)]
          rfl
        · rw [b1_neg h4]; rfl
      · rw [b1_neg h3]; rfl
    · rw [b1_neg h2]; rfl
  · rw [b1_neg h1]; rfl
def stV (a c : Int32) (st : St) : St := setJ (setJ (setJ (setI (setI st 130 61 (a / 10)) 130 62 (a - a / 10 * 10)) 130 63 (c / 1000).toInt64) 130 64 (c / 100 - c / 100 / 10 * 10).toInt64) 130 65 (c - c / 100 * 100).toInt64
theorem stV_61 (a c : Int32) (st : St) : (stV a c st).1 130 61 = a / 10 := by simp (config := { decide := true }) only [stV, sI_k, sI_at, sJ_1, ne_eq, not_false_eq_true]
theorem stV_62 (a c : Int32) (st : St) : (stV a c st).1 130 62 = a - a / 10 * 10 := by simp (config := { decide := true }) only [stV, sI_k, sI_at, sJ_1, ne_eq, not_false_eq_true]
theorem stV_63 (a c : Int32) (st : St) : (stV a c st).2 130 63 = (c / 1000).toInt64 := by simp (config := { decide := true }) only [stV, sJ_k, sJ_at, ne_eq, not_false_eq_true]
theorem stV_64 (a c : Int32) (st : St) : (stV a c st).2 130 64 = (c / 100 - c / 100 / 10 * 10).toInt64 := by simp (config := { decide := true }) only [stV, sJ_k, sJ_at, ne_eq, not_false_eq_true]
theorem stV_65 (a c : Int32) (st : St) : (stV a c st).2 130 65 = (c - c / 100 * 100).toInt64 := by simp (config := { decide := true }) only [stV, sJ_k, sJ_at, ne_eq, not_false_eq_true]
theorem stV_165 (a c : Int32) (st : St) : (stV a c st).1 165 = st.1 165 := by simp (config := { decide := true }) only [stV, sI_o, sJ_1, ne_eq, not_false_eq_true]
theorem dv_neg {v d : Int32} (hd : 0 < d) (h : 1 ≤ v / d) : ¬ v < 0 := by
  intro hv
  rw [Int32.lt_iff_toInt_lt] at hd hv
  rw [Int32.le_iff_toInt_le, Int32.toInt_div_of_ne_right _ _ (fun e => by rw [e] at hd; exact absurd hd (by decide))] at h
  have h0 : (0 : Int32).toInt = 0 := rfl
  have h1 : (1 : Int32).toInt = 1 := rfl
  rw [h0] at hd hv
  rw [h1] at h
  have : v.toInt = -(-v.toInt) := by omega
  rw [this, Int.neg_tdiv] at h
  have := Int.tdiv_nonneg (a := -v.toInt) (b := d.toInt) (by omega) (by omega)
  omega
theorem m_has0 (n : Nat) (a c : Int32) (st : St) (h : ¬ UOK a c) : fX11_hasLevels n a c st = some (0, stV a c st) := by
  show fX11_hasLevels_s47 n a c (stV a c st) = _
  simp only [fX11_hasLevels_s47, fX11_hasLevels_s51]
  by_cases ha : a < 0
  · rw [if_pos ha]; rfl
  rw [if_neg ha]
  by_cases hc : c < 0
  · rw [if_pos hc]; rfl
  rw [if_neg hc]
  simp only [fX11_hasLevels_s55, stV_61, stV_62, stV_63, stV_64, stV_65, pinl (lo := 1) (hi := 3) (lo' := 1) (hi' := 3) (by decide) (by decide), pinl (lo := 1) (hi := 9) (lo' := 1) (hi' := 9) (by decide) (by decide), pinl (lo := 1) (hi := 99) (lo' := 1) (hi' := 99) (by decide) (by decide), fX11_hasLevels_s67, fX11_hasLevels_s70, fX11_hasLevels_s82, fX11_hasLevels_s85, fX11_hasLevels_s96, fX11_hasLevels_s99, fX11_hasLevels_s110, fX11_hasLevels_s113, fX11_hasLevels_s124, Option.bind_some]
  by_cases h1 : 1 ≤ a / 10 ∧ a / 10 ≤ 3
  · rw [b1_pos h1, if_neg (show ¬ (1 : Int32) = 0 by decide)]
    by_cases h2 : 1 ≤ a - a / 10 * 10 ∧ a - a / 10 * 10 ≤ 3
    · rw [b1_pos h2, if_neg (show ¬ (1 : Int32) = 0 by decide)]
      by_cases h3 : 1 ≤ c / 1000 ∧ c / 1000 ≤ 9
      · rw [b1_pos h3, if_neg (show ¬ (1 : Int32) = 0 by decide)]
        by_cases h4 : 1 ≤ c / 100 - c / 100 / 10 * 10 ∧ c / 100 - c / 100 / 10 * 10 ≤ 9
        · rw [b1_pos h4, if_neg (show ¬ (1 : Int32) = 0 by decide), b1_neg (fun h5 => h ⟨h1, h2, h3, h4, h5⟩)]
          rfl
        · rw [b1_neg h4]; rfl
      · rw [b1_neg h3]; rfl
    · rw [b1_neg h2]; rfl
  · rw [b1_neg h1]; rfl
theorem m_has1 (n : Nat) (hn : 100 ≤ n) (a c : Int32) (st : St) (hU : UOK a c) (w : Nat → Nat) (hw : ∀ d, d < 5 → st.1 165 d = nI (w d) ∧ w d ≤ 9) (l m h g b : Nat) (el : a / 10 = nI l) (em : a - a / 10 * 10 = nI m) (eh : c / 1000 = nI h) (eg : c / 100 - c / 100 / 10 * 10 = nI g) (eb : c - c / 100 * 100 = nI b) (hl : l ≤ 3) (hm : m ≤ 3) (hh : h ≤ 9) (hg : g ≤ 9) (hb : b ≤ 99) : ∃ s2, fX11_hasLevels n a c st = some (1, s2) ∧ LvM s2 (chN w (l + 1)) (chN w m) h g b := by
  have e0 : fX11_hasLevels n a c st = fX11_hasLevels_s129 n (stV a c st) := by
    show fX11_hasLevels_s47 n a c (stV a c st) = _
    simp only [fX11_hasLevels_s47, fX11_hasLevels_s51, if_neg (dv_neg (by decide) hU.1.1), if_neg (dv_neg (by decide) hU.2.2.1.1)]
    simp only [fX11_hasLevels_s55, stV_61, stV_62, stV_63, stV_64, stV_65, pinl (lo := 1) (hi := 3) (lo' := 1) (hi' := 3) (by decide) (by decide), pinl (lo := 1) (hi := 9) (lo' := 1) (hi' := 9) (by decide) (by decide), pinl (lo := 1) (hi := 99) (lo' := 1) (hi' := 99) (by decide) (by decide), fX11_hasLevels_s67, fX11_hasLevels_s70, fX11_hasLevels_s82, fX11_hasLevels_s85, fX11_hasLevels_s96, fX11_hasLevels_s99, fX11_hasLevels_s110, fX11_hasLevels_s113, fX11_hasLevels_s124, Option.bind_some, b1_pos hU.1, b1_pos hU.2.1, b1_pos hU.2.2.1, b1_pos hU.2.2.2.1, b1_pos hU.2.2.2.2, if_neg (show ¬ (1 : Int32) = 0 by decide)]
  obtain ⟨s1, a1, a2, a3⟩ := m_chances n 0 hn (by decide) w (l + 1) (by omega) (stV a c st) (by rw [stV_165]; exact hw)
  obtain ⟨s2, b1, b2, b3⟩ := m_chances n 1 hn (by decide) w m (by omega) s1 (by rw [a2.1, stV_165]; exact hw)
  have keep : ∀ q, s2.2 130 q = (stV a c st).2 130 q := fun q => by rw [b2.2.1 130 (by decide) (by decide), a2.2.1 130 (by decide) (by decide)]
  refine ⟨s2, ?_, ?_, ?_, ?_, ?_, ?_⟩
  · rw [e0]
    simp only [fX11_hasLevels_s129, stV_61, el, nI_1]
    rw [show (0 : Int32) = nI 0 from rfl, a1]
    simp only [Option.bind_some, fX11_hasLevels_s140]
    rw [show s1.1 130 62 = nI m from by rw [a2.1, stV_62]; exact em, show (1 : Int32) = nI 1 from rfl, b1]
    rfl
  · rw [keep, stV_63, eh, nI_l (by omega)]
  · rw [keep, stV_64, eg, nI_l (by omega)]
  · rw [keep, stV_65, eb, nI_l (by omega)]
  · intro x hx
    rw [b2.2.2 x (by omega)]
    have := a3 x hx
    rwa [show 25 * 0 + x = x by omega] at this
  · intro x hx
    exact b3 x hx
theorem UOK_num {a c : Int32} (hU : UOK a c) : ∃ l m h g b : Nat, (a / 10 = nI l ∧ a - a / 10 * 10 = nI m ∧ c / 1000 = nI h ∧ c / 100 - c / 100 / 10 * 10 = nI g ∧ c - c / 100 * 100 = nI b) ∧ l ≤ 3 ∧ m ≤ 3 ∧ h ≤ 9 ∧ g ≤ 9 ∧ b ≤ 99 := by
  have pos : ∀ {x : Int32}, 1 ≤ x → ¬ x < 0 := fun h => le_of_nlt32.mpr (Int32.le_trans (by decide) h)
  obtain ⟨l, hl, el⟩ := nI_of2 (M := 3) (n := 3) rfl (pos hU.1.1) hU.1.2
  obtain ⟨m, hm, em⟩ := nI_of2 (M := 3) (n := 3) rfl (pos hU.2.1.1) hU.2.1.2
  obtain ⟨h, hh, eh⟩ := nI_of2 (M := 9) (n := 9) rfl (pos hU.2.2.1.1) hU.2.2.1.2
  obtain ⟨g, hg, eg⟩ := nI_of2 (M := 9) (n := 9) rfl (pos hU.2.2.2.1.1) hU.2.2.2.1.2
  obtain ⟨b, hb, eb⟩ := nI_of2 (M := 99) (n := 99) rfl (pos hU.2.2.2.2.1) hU.2.2.2.2.2
  exact ⟨l, m, h, g, b, ⟨el, em, eh, eg, eb⟩, hl, hm, hh, hg, hb⟩
theorem SPlevel (n : Nat) (hn : 100 ≤ n) : SP_level n Inv := by
  intro wh a c st hI
  obtain ⟨w, hw1, hw2⟩ := lev_w hI
  suffices hq : ∃ r st1, fX10_level n wh a c st = some (r, st1) ∧ (Ess st st1 → ∃ st2, fX11_level n wh a c st1 = some (r, st2)) by
    obtain ⟨r, st1, h1, h2⟩ := hq
    have hE := Ess.of (zX10_level n wh a c st _ h1) rfl rfl
    have hI1 := hI.ess hE
    obtain ⟨st2, h3⟩ := h2 hE
    exact ⟨r, st1, st2, h1, h3, hI1.ess (Ess.of (zX11_level n wh a c st1 _ h3) rfl rfl)⟩
  by_cases hU : UOK a c
  · obtain ⟨l, m, h, g, b, ⟨el, em, eh, eg, eb⟩, hl, hm, hh, hg, hb⟩ := UOK_num hU
    have hf : ∀ x, 17 ≤ x → chN w (l + 1) x = 0 := fun x hx => chN_far w (l + 1) x (by omega)
    have hgg : ∀ x, 13 ≤ x → chN w m x = 0 := fun x hx => chN_far w m x (by omega)
    have hgb : ∀ x, chN w m x < 2 ^ 63 := fun x => Nat.lt_of_le_of_lt (chN_bd w (fun d hd => (hw1 d hd).2) m x) (Nat.lt_of_le_of_lt (Nat.pow_le_pow_right (by decide) hm) (by decide))
    have hc := c_und1 n a c st hU
    have hm1 : ∀ s, Ess st s → ∃ s2, fX11_hasLevels n a c s = some (1, s2) ∧ LvM s2 (chN w (l + 1)) (chN w m) h g b := fun s hE => m_has1 n hn a c s hU w (by rw [show s.1 165 = st.1 165 from hE.1.1 165 (by decide)]; exact hw2) l m h g b el em eh eg eb hl hm hh hg hb
    by_cases hq : 0 ≤ wh ∧ wh ≤ 1
    · obtain ⟨s1, k1, k2⟩ := c_work n hn w h g b l m hh hg hb hl hm (stU a c st) (by rw [stU_38]; exact hw1) (by rw [stU_5]; exact el) (by rw [stU_6]; exact em) (by rw [stU_7]; exact eh) (by rw [stU_8]; exact eg) (by rw [stU_9]; exact eb)
      have hnr := bestN_le (fun i => lZ (nearZ (chN w (l + 1)) h g b (i : Int))) 30
      have hc2 : fX10_level n wh a c st = fX10_level_s33 n wh s1 := by
        simp only [fX10_level, fX10_level_s0, hc, Option.bind_some, fX10_level_s9, if_neg (show ¬ (1 : Int32) = 0 by decide), fX10_level_s15, pw, b1_pos hq, fX10_level_s21, fX10_level_s26, k1]
      have hm2 : ∀ s, Ess st s → ∃ s2, fX11_level n wh a c s = fX11_level_s28 n wh (nI (bestN (fun i => lZ (nearZ (chN w (l + 1)) h g b (i : Int))) 30)) s2 ∧ LvM s2 (chN w (l + 1)) (chN w m) h g b := by
        intro s hE
        obtain ⟨s2, g1, g2⟩ := hm1 s hE
        refine ⟨s2, ?_, g2⟩
        have e := m_nearLevel n hn _ _ h g b hf s2 g2 n 1 (by omega) (by omega) (by omega)
        simp only [fX11_level, fX11_level_s0, g1, Option.bind_some, fX11_level_s6, if_neg (show ¬ (1 : Int32) = 0 by decide), fX11_level_s12, pinl (lo := 0) (hi := 1) (lo' := 0) (hi' := 1) (by decide) (by decide), b1_pos hq, fX11_level_s19, fX11_level_s24, fX11_nearLevel, fX11_nearLevel_s0]
        rw [show nI (bestN (fun i => lZ (nearZ (chN w (l + 1)) h g b (i : Int))) (1 - 1)) = 0 from rfl, show nI 1 = 1 from rfl] at e
        rw [e]; rfl
      by_cases hz : wh = 0
      · refine ⟨nI (bestN (fun i => lZ (nearZ (chN w (l + 1)) h g b (i : Int))) 30), s1, ?_, fun hE => ?_⟩
        · rw [hc2]; simp only [fX10_level_s33, if_pos hz, fX10_level_s37, fX10_level_s54, k2.2.2.2.1]
        · obtain ⟨s2, g1, g2⟩ := hm2 s1 hE
          exact ⟨s2, by rw [g1]; simp only [fX11_level_s28, if_pos hz, fX11_level_s34]⟩
      · refine ⟨nI (bestN (fun i => lZ (farZ (chN w (l + 1)) (chN w m) h g b (bestN (fun i => lZ (nearZ (chN w (l + 1)) h g b (i : Int))) 30) (i : Int))) 30), s1, ?_, fun hE => ?_⟩
        · rw [hc2]; simp only [fX10_level_s33, if_neg hz, fX10_level_s47, c_far n hn _ _ h g b _ hg hnr s1 k2, Option.bind_some, fX10_level_s54]
        · obtain ⟨s2, g1, g2⟩ := hm2 s1 hE
          refine ⟨s2, ?_⟩
          rw [g1]
          have e0 := m_far n hn _ _ h g b _ hf hgg hgb hnr s2 g2 0 (by omega) (by omega)
          rw [show iZ 0 = 0 from by decide] at e0
          simp only [fX11_level_s28, if_neg hz, fX11_level_s37, e0, Option.bind_some, fX11_level_s47]
          exact m_level52 n hn _ _ h g b _ hf hgg hgb hnr s2 g2 n 1 (by omega) (by omega) (by omega)
    · refine ⟨-1, stU a c st, ?_, fun hE => ?_⟩
      · simp only [fX10_level, fX10_level_s0, hc, Option.bind_some, fX10_level_s9, if_neg (show ¬ (1 : Int32) = 0 by decide), fX10_level_s15, pw, b1_neg hq, fX10_level_s21]
        rfl
      · obtain ⟨s2, g1, g2⟩ := hm1 _ hE
        refine ⟨s2, ?_⟩
        simp only [fX11_level, fX11_level_s0, g1, Option.bind_some, fX11_level_s6, if_neg (show ¬ (1 : Int32) = 0 by decide), fX11_level_s12, pinl (lo := 0) (hi := 1) (lo' := 0) (hi' := 1) (by decide) (by decide), b1_neg hq, fX11_level_s19]
        rfl
  · refine ⟨-2, stU a c st, ?_, fun hE => ⟨stV a c (stU a c st), ?_⟩⟩
    · simp only [fX10_level, fX10_level_s0, c_und0 n a c st hU, Option.bind_some, fX10_level_s9]; rfl
    · simp only [fX11_level, fX11_level_s0, m_has0 n a c _ hU, Option.bind_some, fX11_level_s6]; rfl
theorem SPlevelCost (n : Nat) (hn : 100 ≤ n) : SP_levelCost n Inv := by
  intro wh a c v st hI
  obtain ⟨w, hw1, hw2⟩ := lev_w hI
  suffices hq : ∃ r st1, fX10_levelCost n wh a c v st = some (r, st1) ∧ (Ess st st1 → ∃ st2, fX11_levelCost n wh a c v st1 = some (r, st2)) by
    obtain ⟨r, st1, h1, h2⟩ := hq
    have hE := Ess.of (zX10_levelCost n wh a c v st _ h1) rfl rfl
    have hI1 := hI.ess hE
    obtain ⟨st2, h3⟩ := h2 hE
    exact ⟨r, st1, st2, h1, h3, hI1.ess (Ess.of (zX11_levelCost n wh a c v st1 _ h3) rfl rfl)⟩
  have pv : ∀ s, fX11_in n v.toInt64 (-30) 30 s = some (b1 (-30 ≤ v ∧ v ≤ 30), s) := fun s => pinl (lo := -30) (hi := 30) (lo' := -30) (hi' := 30) (by decide) (by decide) n v s
  by_cases hU : UOK a c
  · obtain ⟨l, m, h, g, b, ⟨el, em, eh, eg, eb⟩, hl, hm, hh, hg, hb⟩ := UOK_num hU
    have hf : ∀ x, 17 ≤ x → chN w (l + 1) x = 0 := fun x hx => chN_far w (l + 1) x (by omega)
    have hgg : ∀ x, 13 ≤ x → chN w m x = 0 := fun x hx => chN_far w m x (by omega)
    have hgb : ∀ x, chN w m x < 2 ^ 63 := fun x => Nat.lt_of_le_of_lt (chN_bd w (fun d hd => (hw1 d hd).2) m x) (Nat.lt_of_le_of_lt (Nat.pow_le_pow_right (by decide) hm) (by decide))
    have hm1 : ∀ s, Ess st s → ∃ s2, fX11_hasLevels n a c s = some (1, s2) ∧ LvM s2 (chN w (l + 1)) (chN w m) h g b := fun s hE => m_has1 n hn a c s hU w (by rw [show s.1 165 = st.1 165 from hE.1.1 165 (by decide)]; exact hw2) l m h g b el em eh eg eb hl hm hh hg hb
    by_cases hq : 0 ≤ wh ∧ wh ≤ 1
    · by_cases hv : -30 ≤ v ∧ v ≤ 30
      · obtain ⟨y, hy1, hy2, rfl⟩ := iZ_of (lo := -30) (hi := 30) (by decide) (by decide) hv.1 hv.2
        obtain ⟨s1, k1, k2⟩ := c_work n hn w h g b l m hh hg hb hl hm (stU a c st) (by rw [stU_38]; exact hw1) (by rw [stU_5]; exact el) (by rw [stU_6]; exact em) (by rw [stU_7]; exact eh) (by rw [stU_8]; exact eg) (by rw [stU_9]; exact eb)
        have hnr := bestN_le (fun i => lZ (nearZ (chN w (l + 1)) h g b (i : Int))) 30
        have hc2 : fX10_levelCost n wh a c (iZ y) st = fX10_levelCost_s44 n wh (iZ y) s1 := by
          simp only [fX10_levelCost, fX10_levelCost_s0, pw, b1_pos hq, Option.bind_some, fX10_levelCost_s6, if_neg (show ¬ (1 : Int32) = 0 by decide), fX10_levelCost_s9, b1_pos hv, fX10_levelCost_s18, fX10_levelCost_s21, c_und1 n a c st hU, fX10_levelCost_s30, fX10_levelCost_s37, k1]
        have hm2 : ∀ s, Ess st s → ∃ s2, fX11_levelCost n wh a c (iZ y) s = fX11_levelCost_s38 n wh (iZ y) s2 ∧ LvM s2 (chN w (l + 1)) (chN w m) h g b := by
          intro s hE
          obtain ⟨s2, g1, g2⟩ := hm1 s hE
          refine ⟨s2, ?_, g2⟩
          simp only [fX11_levelCost, fX11_levelCost_s0, g1, Option.bind_some, fX11_levelCost_s6, if_neg (show ¬ (1 : Int32) = 0 by decide), fX11_levelCost_s9, pinl (lo := 0) (hi := 1) (lo' := 0) (hi' := 1) (by decide) (by decide), b1_pos hq, fX11_levelCost_s16, fX11_levelCost_s19, pv, b1_pos hv, fX11_levelCost_s31]
        by_cases hz : wh = 0
        · refine ⟨lZ (nearZ (chN w (l + 1)) h g b y), s1, ?_, fun hE => ?_⟩
          · rw [hc2]
            have e := c_nearCost n s1 (fun k => lZ (nearZ (chN w (l + 1)) h g b ((k : Int) - 42))) k2.2.2.2.2.2.2 y (by omega) (by omega)
            simp only [fX10_levelCost_s44, if_pos hz, fX10_levelCost_s48, e, Option.bind_some, fX10_levelCost_s57, fX10_levelCost_s69]
            rw [show (((y + 42).toNat : Nat) : Int) - 42 = y by omega]
          · obtain ⟨s2, g1, g2⟩ := hm2 s1 hE
            refine ⟨s2, ?_⟩
            rw [g1]
            simp only [fX11_levelCost_s38, if_pos hz, fX11_levelCost_s42]
            rw [iZ_l (by omega), m_near n hn _ _ h g b hf s2 g2 y (by omega) hy2]
            rfl
        · refine ⟨lZ (farZ (chN w (l + 1)) (chN w m) h g b (bestN (fun i => lZ (nearZ (chN w (l + 1)) h g b (i : Int))) 30) y), s1, ?_, fun hE => ?_⟩
          · rw [hc2]; simp only [fX10_levelCost_s44, if_neg hz, fX10_levelCost_s60, c_farC n hn _ _ h g b _ hg hnr y hy1 hy2 s1 k2, Option.bind_some, fX10_levelCost_s69]
          · obtain ⟨s2, g1, g2⟩ := hm2 s1 hE
            refine ⟨s2, ?_⟩
            rw [g1]
            have e := m_nearLevel n hn _ _ h g b hf s2 g2 n 1 (by omega) (by omega) (by omega)
            rw [show nI (bestN (fun i => lZ (nearZ (chN w (l + 1)) h g b (i : Int))) (1 - 1)) = 0 from rfl, show nI 1 = 1 from rfl] at e
            simp only [fX11_levelCost_s38, if_neg hz, fX11_levelCost_s52, fX11_nearLevel, fX11_nearLevel_s0, e, Option.bind_some, fX11_levelCost_s59, m_far n hn _ _ h g b _ hf hgg hgb hnr s2 g2 y hy1 hy2, fX11_levelCost_s62]
      · refine ⟨-9223372036854775808, st, ?_, fun hE => ?_⟩
        · simp only [fX10_levelCost, fX10_levelCost_s0, pw, b1_pos hq, Option.bind_some, fX10_levelCost_s6, if_neg (show ¬ (1 : Int32) = 0 by decide), fX10_levelCost_s9, b1_neg hv, fX10_levelCost_s18]; rfl
        · obtain ⟨s2, g1, g2⟩ := hm1 _ hE
          refine ⟨s2, ?_⟩
          simp only [fX11_levelCost, fX11_levelCost_s0, g1, Option.bind_some, fX11_levelCost_s6, if_neg (show ¬ (1 : Int32) = 0 by decide), fX11_levelCost_s9, pinl (lo := 0) (hi := 1) (lo' := 0) (hi' := 1) (by decide) (by decide), b1_pos hq, fX11_levelCost_s16, fX11_levelCost_s19, pv, b1_neg hv, fX11_levelCost_s31]
          rfl
    · refine ⟨-9223372036854775808, st, ?_, fun hE => ?_⟩
      · simp only [fX10_levelCost, fX10_levelCost_s0, pw, b1_neg hq, Option.bind_some, fX10_levelCost_s6]; rfl
      · obtain ⟨s2, g1, g2⟩ := hm1 _ hE
        refine ⟨s2, ?_⟩
        simp only [fX11_levelCost, fX11_levelCost_s0, g1, Option.bind_some, fX11_levelCost_s6, if_neg (show ¬ (1 : Int32) = 0 by decide), fX11_levelCost_s9, pinl (lo := 0) (hi := 1) (lo' := 0) (hi' := 1) (by decide) (by decide), b1_neg hq, fX11_levelCost_s16]
        rfl
  · have hm0 : ∀ s, fX11_levelCost n wh a c v s = some (-9223372036854775808, stV a c s) := by
      intro s
      simp only [fX11_levelCost, fX11_levelCost_s0, m_has0 n a c _ hU, Option.bind_some, fX11_levelCost_s6]; rfl
    by_cases hq : 0 ≤ wh ∧ wh ≤ 1
    · by_cases hv : -30 ≤ v ∧ v ≤ 30
      · refine ⟨-9223372036854775808, stU a c st, ?_, fun _ => ⟨_, hm0 _⟩⟩
        simp only [fX10_levelCost, fX10_levelCost_s0, pw, b1_pos hq, Option.bind_some, fX10_levelCost_s6, if_neg (show ¬ (1 : Int32) = 0 by decide), fX10_levelCost_s9, b1_pos hv, fX10_levelCost_s18, fX10_levelCost_s21, c_und0 n a c st hU, fX10_levelCost_s30]
        rfl
      · refine ⟨-9223372036854775808, st, ?_, fun _ => ⟨_, hm0 _⟩⟩
        simp only [fX10_levelCost, fX10_levelCost_s0, pw, b1_pos hq, Option.bind_some, fX10_levelCost_s6, if_neg (show ¬ (1 : Int32) = 0 by decide), fX10_levelCost_s9, b1_neg hv, fX10_levelCost_s18]; rfl
    · refine ⟨-9223372036854775808, st, ?_, fun _ => ⟨_, hm0 _⟩⟩
      simp only [fX10_levelCost, fX10_levelCost_s0, pw, b1_neg hq, Option.bind_some, fX10_levelCost_s6]; rfl
