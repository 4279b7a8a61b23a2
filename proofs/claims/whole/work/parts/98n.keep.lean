/-! ===== worst: what the reference keeps and lays ===== -/
theorem m_keeps131 (n : Nat) : ∀ (j k : Nat) (st : St), k ≤ 64 → 64 - k < j → (∀ i, i < k → st.2 171 i = st.2 142 i) → ∃ st1, fX11_keeps_L131 n j (nI k) st = fX11_keeps_s155 n st1 ∧ st1.1 = st.1 ∧ (∀ o, o ≠ 171 → st1.2 o = st.2 o) ∧ ∀ i, i < 64 → st1.2 171 i = st1.2 142 i := by
  intro j
  induction j with
  | zero => intro k st _ hj; omega
  | succ j ih =>
    intro k st hk hj h0
    simp only [fX11_keeps_L131, fX11_keeps_s131]
    by_cases q : k = 64
    · subst q
      rw [if_pos (show (64 : Int32) ≤ nI 64 by decide)]
      exact ⟨st, rfl, rfl, fun _ _ => rfl, h0⟩
    · rw [if_neg (show ¬ (64 : Int32) ≤ nI k from nI_ge (b := 64) (by omega) (by decide))]
      have i1 : inb (nI k) 64 = true := inb_nI (by omega) (by decide)
      have c1 : (nI k).toNatClampNeg = k := nI_clamp (by omega)
      simp only [fX11_keeps_s137, fX11_keeps_s149, i1, c1, if_true, nI_1]
      obtain ⟨st1, g1, g2, g3, g4⟩ := ih (k + 1) (setJ st 171 k (st.2 142 k)) (by omega) (by omega) (fun i hi => by
        by_cases z : i = k
        · subst z; rw [sJ_at, sJ_o (by decide)]
        · rw [sJ_k z, sJ_o (by decide)]; exact h0 i (by omega))
      exact ⟨st1, g1, g2, fun o o1 => by rw [g3 o o1, sJ_o o1], g4⟩
theorem m_keeps157 (n : Nat) : ∀ (j k : Nat) (st : St), k ≤ 56 → 56 - k < j → (∀ i, i < k → st.2 172 i = st.2 143 i) → ∃ st1, fX11_keeps_L157 n j (nI k) st = fX11_keeps_s181 n st1 ∧ st1.1 = st.1 ∧ (∀ o, o ≠ 172 → st1.2 o = st.2 o) ∧ ∀ i, i < 56 → st1.2 172 i = st1.2 143 i := by
  intro j
  induction j with
  | zero => intro k st _ hj; omega
  | succ j ih =>
    intro k st hk hj h0
    simp only [fX11_keeps_L157, fX11_keeps_s157]
    by_cases q : k = 56
    · subst q
      rw [if_pos (show (56 : Int32) ≤ nI 56 by decide)]
      exact ⟨st, rfl, rfl, fun _ _ => rfl, h0⟩
    · rw [if_neg (show ¬ (56 : Int32) ≤ nI k from nI_ge (b := 56) (by omega) (by decide))]
      have i1 : inb (nI k) 56 = true := inb_nI (by omega) (by decide)
      have c1 : (nI k).toNatClampNeg = k := nI_clamp (by omega)
      simp only [fX11_keeps_s163, fX11_keeps_s175, i1, c1, if_true, nI_1]
      obtain ⟨st1, g1, g2, g3, g4⟩ := ih (k + 1) (setJ st 172 k (st.2 143 k)) (by omega) (by omega) (fun i hi => by
        by_cases z : i = k
        · subst z; rw [sJ_at, sJ_o (by decide)]
        · rw [sJ_k z, sJ_o (by decide)]; exact h0 i (by omega))
      exact ⟨st1, g1, g2, fun o o1 => by rw [g3 o o1, sJ_o o1], g4⟩
theorem m_keeps183 (n : Nat) : ∀ (j k : Nat) (st : St), k ≤ 32 → 32 - k < j → (∀ i, i < k → st.2 173 i = st.2 144 i) → ∃ st1, fX11_keeps_L183 n j (nI k) st = fX11_keeps_s207 n st1 ∧ st1.1 = st.1 ∧ (∀ o, o ≠ 173 → st1.2 o = st.2 o) ∧ ∀ i, i < 32 → st1.2 173 i = st1.2 144 i := by
  intro j
  induction j with
  | zero => intro k st _ hj; omega
  | succ j ih =>
    intro k st hk hj h0
    simp only [fX11_keeps_L183, fX11_keeps_s183]
    by_cases q : k = 32
    · subst q
      rw [if_pos (show (32 : Int32) ≤ nI 32 by decide)]
      exact ⟨st, rfl, rfl, fun _ _ => rfl, h0⟩
    · rw [if_neg (show ¬ (32 : Int32) ≤ nI k from nI_ge (b := 32) (by omega) (by decide))]
      have i1 : inb (nI k) 32 = true := inb_nI (by omega) (by decide)
      have c1 : (nI k).toNatClampNeg = k := nI_clamp (by omega)
      simp only [fX11_keeps_s189, fX11_keeps_s201, i1, c1, if_true, nI_1]
      obtain ⟨st1, g1, g2, g3, g4⟩ := ih (k + 1) (setJ st 173 k (st.2 144 k)) (by omega) (by omega) (fun i hi => by
        by_cases z : i = k
        · subst z; rw [sJ_at, sJ_o (by decide)]
        · rw [sJ_k z, sJ_o (by decide)]; exact h0 i (by omega))
      exact ⟨st1, g1, g2, fun o o1 => by rw [g3 o o1, sJ_o o1], g4⟩
theorem m_keeps209 (n : Nat) : ∀ (j k : Nat) (st : St), k ≤ 320 → 320 - k < j → (∀ i, i < k → st.2 174 i = st.2 149 i ∧ st.2 175 i = st.2 150 i) → ∃ st1, fX11_keeps_L209 n j (nI k) st = fX11_keeps_s246 n st1 ∧ st1.1 = st.1 ∧ (∀ o, o ≠ 174 → o ≠ 175 → st1.2 o = st.2 o) ∧ ∀ i, i < 320 → st1.2 174 i = st1.2 149 i ∧ st1.2 175 i = st1.2 150 i := by
  intro j
  induction j with
  | zero => intro k st _ hj; omega
  | succ j ih =>
    intro k st hk hj h0
    simp only [fX11_keeps_L209, fX11_keeps_s209]
    by_cases q : k = 320
    · subst q
      rw [if_pos (show (320 : Int32) ≤ nI 320 by decide)]
      exact ⟨st, rfl, rfl, fun _ _ _ => rfl, h0⟩
    · rw [if_neg (show ¬ (320 : Int32) ≤ nI k from nI_ge (b := 320) (by omega) (by decide))]
      have i1 : inb (nI k) 320 = true := inb_nI (by omega) (by decide)
      have c1 : (nI k).toNatClampNeg = k := nI_clamp (by omega)
      simp only [fX11_keeps_s216, fX11_keeps_s228, fX11_keeps_s240, i1, c1, if_true, nI_1]
      rw [sJ_o (st := st) (show (150 : Nat) ≠ 174 by decide)]
      obtain ⟨st1, g1, g2, g3, g4⟩ := ih (k + 1) (setJ (setJ st 174 k (st.2 149 k)) 175 k (st.2 150 k)) (by omega) (by omega) (fun i hi => by
        by_cases z : i = k
        · subst z
          refine ⟨?_, ?_⟩
          · rw [sJ_o (by decide), sJ_at, sJ_o (by decide), sJ_o (by decide)]
          · rw [sJ_at, sJ_o (by decide), sJ_o (by decide)]
        · have := h0 i (by omega)
          refine ⟨?_, ?_⟩
          · rw [sJ_o (by decide), sJ_k z, sJ_o (by decide), sJ_o (by decide)]; exact this.1
          · rw [sJ_k z, sJ_o (by decide), sJ_o (by decide), sJ_o (by decide)]; exact this.2)
      exact ⟨st1, g1, g2, fun o o1 o2 => by rw [g3 o o1 o2, sJ_o o2, sJ_o o1], g4⟩
theorem m_keeps33 (n : Nat) : ∀ (j k : Nat) (st : St), k ≤ 8 → 8 - k < j → (∀ i, i < k → st.1 169 i = st.1 140 i ∧ st.2 170 (0 + i) = st.2 141 i ∧ st.2 170 (8 + i) = st.2 145 i ∧ st.2 170 (16 + i) = st.2 146 i ∧ st.2 170 (24 + i) = st.2 147 i ∧ st.2 170 (32 + i) = st.2 148 i) → ∃ st1, fX11_keeps_L33 n j (nI k) st = fX11_keeps_s129 n st1 ∧ (∀ o, o ≠ 169 → st1.1 o = st.1 o) ∧ (∀ o, o ≠ 170 → st1.2 o = st.2 o) ∧ ∀ i, i < 8 → st1.1 169 i = st1.1 140 i ∧ st1.2 170 (0 + i) = st1.2 141 i ∧ st1.2 170 (8 + i) = st1.2 145 i ∧ st1.2 170 (16 + i) = st1.2 146 i ∧ st1.2 170 (24 + i) = st1.2 147 i ∧ st1.2 170 (32 + i) = st1.2 148 i := by
  intro j
  induction j with
  | zero => intro k st _ hj; omega
  | succ j ih =>
    intro k st hk hj h0
    simp only [fX11_keeps_L33, fX11_keeps_s33]
    by_cases q : k = 8
    · subst q
      rw [if_pos (show (8 : Int32) ≤ nI 8 by decide)]
      exact ⟨st, rfl, fun _ _ => rfl, fun _ _ => rfl, h0⟩
    · rw [if_neg (show ¬ (8 : Int32) ≤ nI k from nI_ge (b := 8) (by omega) (by decide))]
      have i1 : inb (nI k) 8 = true := inb_nI (by omega) (by decide)
      have i2 : inb (nI k) 40 = true := inb_nI (by omega) (by decide)
      have c1 : (nI k).toNatClampNeg = k := nI_clamp (by omega)
      have e8 : (8 : Int32) + nI k = nI (8 + k) := nI_add 8 k
      have i8 : inb (nI (8 + k)) 40 = true := inb_nI (by omega) (by decide)
      have c8 : (nI (8 + k)).toNatClampNeg = 8 + k := nI_clamp (by omega)
      have e16 : (16 : Int32) + nI k = nI (16 + k) := nI_add 16 k
      have i16 : inb (nI (16 + k)) 40 = true := inb_nI (by omega) (by decide)
      have c16 : (nI (16 + k)).toNatClampNeg = 16 + k := nI_clamp (by omega)
      have e24 : (24 : Int32) + nI k = nI (24 + k) := nI_add 24 k
      have i24 : inb (nI (24 + k)) 40 = true := inb_nI (by omega) (by decide)
      have c24 : (nI (24 + k)).toNatClampNeg = 24 + k := nI_clamp (by omega)
      have e32 : (32 : Int32) + nI k = nI (32 + k) := nI_add 32 k
      have i32 : inb (nI (32 + k)) 40 = true := inb_nI (by omega) (by decide)
      have c32 : (nI (32 + k)).toNatClampNeg = 32 + k := nI_clamp (by omega)
      simp only [fX11_keeps_s39, fX11_keeps_s51, fX11_keeps_s63, fX11_keeps_s78, fX11_keeps_s93, fX11_keeps_s108, fX11_keeps_s123, i1, i2, c1, e8, e16, e24, e32, i8, i16, i24, i32, c8, c16, c24, c32, if_true, nI_1]
      have eS : ∀ X : St, X = (setJ (setJ (setJ (setJ (setJ (setI st 169 k (st.1 140 k)) 170 (0 + k) (st.2 141 k)) 170 (8 + k) (st.2 145 k)) 170 (16 + k) (st.2 146 k)) 170 (24 + k) (st.2 147 k)) 170 (32 + k) (st.2 148 k)) → (∃ st1, fX11_keeps_L33 n j (nI (k + 1)) X = fX11_keeps_s129 n st1 ∧ (∀ o, o ≠ 169 → st1.1 o = st.1 o) ∧ (∀ o, o ≠ 170 → st1.2 o = st.2 o) ∧ ∀ i, i < 8 → st1.1 169 i = st1.1 140 i ∧ st1.2 170 (0 + i) = st1.2 141 i ∧ st1.2 170 (8 + i) = st1.2 145 i ∧ st1.2 170 (16 + i) = st1.2 146 i ∧ st1.2 170 (24 + i) = st1.2 147 i ∧ st1.2 170 (32 + i) = st1.2 148 i) := by
        intro X eX
        obtain ⟨st1, g1, g2, g3, g4⟩ := ih (k + 1) X (by omega) (by omega) (fun i hi => by
          rw [eX]
          by_cases z : i = k
          · subst z
            simp (disch := omega) only [sI_at, sI_o, sI_2, sJ_1, sJ_at, sJ_k, sJ_o, and_self]
          · have := h0 i (by omega)
            simp (disch := omega) only [sI_k, sI_o, sI_2, sJ_1, sJ_k, sJ_o]
            exact this)
        exact ⟨st1, g1, fun o o1 => by rw [g2 o o1, eX]; simp (disch := assumption) only [sJ_1, sI_o], fun o o1 => by rw [g3 o o1, eX]; simp (disch := assumption) only [sJ_o, sI_2], g4⟩
      refine eS _ ?_
      simp (disch := omega) only [sI_o, sI_2, sJ_o, sJ_k, sJ_1, Nat.zero_add]
theorem m_lays131 (n : Nat) : ∀ (j k : Nat) (st : St), k ≤ 64 → 64 - k < j → (∀ i, i < k → st.2 142 i = st.2 171 i) → ∃ st1, fX11_lays_L131 n j (nI k) st = fX11_lays_s155 n st1 ∧ st1.1 = st.1 ∧ (∀ o, o ≠ 142 → st1.2 o = st.2 o) ∧ ∀ i, i < 64 → st1.2 142 i = st1.2 171 i := by
  intro j
  induction j with
  | zero => intro k st _ hj; omega
  | succ j ih =>
    intro k st hk hj h0
    simp only [fX11_lays_L131, fX11_lays_s131]
    by_cases q : k = 64
    · subst q
      rw [if_pos (show (64 : Int32) ≤ nI 64 by decide)]
      exact ⟨st, rfl, rfl, fun _ _ => rfl, h0⟩
    · rw [if_neg (show ¬ (64 : Int32) ≤ nI k from nI_ge (b := 64) (by omega) (by decide))]
      have i1 : inb (nI k) 64 = true := inb_nI (by omega) (by decide)
      have c1 : (nI k).toNatClampNeg = k := nI_clamp (by omega)
      simp only [fX11_lays_s137, fX11_lays_s149, i1, c1, if_true, nI_1]
      obtain ⟨st1, g1, g2, g3, g4⟩ := ih (k + 1) (setJ st 142 k (st.2 171 k)) (by omega) (by omega) (fun i hi => by
        by_cases z : i = k
        · subst z; rw [sJ_at, sJ_o (by decide)]
        · rw [sJ_k z, sJ_o (by decide)]; exact h0 i (by omega))
      exact ⟨st1, g1, g2, fun o o1 => by rw [g3 o o1, sJ_o o1], g4⟩
theorem m_lays157 (n : Nat) : ∀ (j k : Nat) (st : St), k ≤ 56 → 56 - k < j → (∀ i, i < k → st.2 143 i = st.2 172 i) → ∃ st1, fX11_lays_L157 n j (nI k) st = fX11_lays_s181 n st1 ∧ st1.1 = st.1 ∧ (∀ o, o ≠ 143 → st1.2 o = st.2 o) ∧ ∀ i, i < 56 → st1.2 143 i = st1.2 172 i := by
  intro j
  induction j with
  | zero => intro k st _ hj; omega
  | succ j ih =>
    intro k st hk hj h0
    simp only [fX11_lays_L157, fX11_lays_s157]
    by_cases q : k = 56
    · subst q
      rw [if_pos (show (56 : Int32) ≤ nI 56 by decide)]
      exact ⟨st, rfl, rfl, fun _ _ => rfl, h0⟩
    · rw [if_neg (show ¬ (56 : Int32) ≤ nI k from nI_ge (b := 56) (by omega) (by decide))]
      have i1 : inb (nI k) 56 = true := inb_nI (by omega) (by decide)
      have c1 : (nI k).toNatClampNeg = k := nI_clamp (by omega)
      simp only [fX11_lays_s163, fX11_lays_s175, i1, c1, if_true, nI_1]
      obtain ⟨st1, g1, g2, g3, g4⟩ := ih (k + 1) (setJ st 143 k (st.2 172 k)) (by omega) (by omega) (fun i hi => by
        by_cases z : i = k
        · subst z; rw [sJ_at, sJ_o (by decide)]
        · rw [sJ_k z, sJ_o (by decide)]; exact h0 i (by omega))
      exact ⟨st1, g1, g2, fun o o1 => by rw [g3 o o1, sJ_o o1], g4⟩
theorem m_lays183 (n : Nat) : ∀ (j k : Nat) (st : St), k ≤ 32 → 32 - k < j → (∀ i, i < k → st.2 144 i = st.2 173 i) → ∃ st1, fX11_lays_L183 n j (nI k) st = fX11_lays_s207 n st1 ∧ st1.1 = st.1 ∧ (∀ o, o ≠ 144 → st1.2 o = st.2 o) ∧ ∀ i, i < 32 → st1.2 144 i = st1.2 173 i := by
  intro j
  induction j with
  | zero => intro k st _ hj; omega
  | succ j ih =>
    intro k st hk hj h0
    simp only [fX11_lays_L183, fX11_lays_s183]
    by_cases q : k = 32
    · subst q
      rw [if_pos (show (32 : Int32) ≤ nI 32 by decide)]
      exact ⟨st, rfl, rfl, fun _ _ => rfl, h0⟩
    · rw [if_neg (show ¬ (32 : Int32) ≤ nI k from nI_ge (b := 32) (by omega) (by decide))]
      have i1 : inb (nI k) 32 = true := inb_nI (by omega) (by decide)
      have c1 : (nI k).toNatClampNeg = k := nI_clamp (by omega)
      simp only [fX11_lays_s189, fX11_lays_s201, i1, c1, if_true, nI_1]
      obtain ⟨st1, g1, g2, g3, g4⟩ := ih (k + 1) (setJ st 144 k (st.2 173 k)) (by omega) (by omega) (fun i hi => by
        by_cases z : i = k
        · subst z; rw [sJ_at, sJ_o (by decide)]
        · rw [sJ_k z, sJ_o (by decide)]; exact h0 i (by omega))
      exact ⟨st1, g1, g2, fun o o1 => by rw [g3 o o1, sJ_o o1], g4⟩
theorem m_lays209 (n : Nat) : ∀ (j k : Nat) (st : St), k ≤ 320 → 320 - k < j → (∀ i, i < k → st.2 149 i = st.2 174 i ∧ st.2 150 i = st.2 175 i) → ∃ st1, fX11_lays_L209 n j (nI k) st = fX11_lays_s246 n st1 ∧ st1.1 = st.1 ∧ (∀ o, o ≠ 149 → o ≠ 150 → st1.2 o = st.2 o) ∧ ∀ i, i < 320 → st1.2 149 i = st1.2 174 i ∧ st1.2 150 i = st1.2 175 i := by
  intro j
  induction j with
  | zero => intro k st _ hj; omega
  | succ j ih =>
    intro k st hk hj h0
    simp only [fX11_lays_L209, fX11_lays_s209]
    by_cases q : k = 320
    · subst q
      rw [if_pos (show (320 : Int32) ≤ nI 320 by decide)]
      exact ⟨st, rfl, rfl, fun _ _ _ => rfl, h0⟩
    · rw [if_neg (show ¬ (320 : Int32) ≤ nI k from nI_ge (b := 320) (by omega) (by decide))]
      have i1 : inb (nI k) 320 = true := inb_nI (by omega) (by decide)
      have c1 : (nI k).toNatClampNeg = k := nI_clamp (by omega)
      simp only [fX11_lays_s216, fX11_lays_s228, fX11_lays_s240, i1, c1, if_true, nI_1]
      rw [sJ_o (st := st) (show (175 : Nat) ≠ 149 by decide)]
      obtain ⟨st1, g1, g2, g3, g4⟩ := ih (k + 1) (setJ (setJ st 149 k (st.2 174 k)) 150 k (st.2 175 k)) (by omega) (by omega) (fun i hi => by
        by_cases z : i = k
        · subst z
          refine ⟨?_, ?_⟩
          · rw [sJ_o (by decide), sJ_at, sJ_o (by decide), sJ_o (by decide)]
          · rw [sJ_at, sJ_o (by decide), sJ_o (by decide)]
        · have := h0 i (by omega)
          refine ⟨?_, ?_⟩
          · rw [sJ_o (by decide), sJ_k z, sJ_o (by decide), sJ_o (by decide)]; exact this.1
          · rw [sJ_k z, sJ_o (by decide), sJ_o (by decide), sJ_o (by decide)]; exact this.2)
      exact ⟨st1, g1, g2, fun o o1 o2 => by rw [g3 o o1 o2, sJ_o o2, sJ_o o1], g4⟩
theorem m_lays33 (n : Nat) : ∀ (j k : Nat) (st : St), k ≤ 8 → 8 - k < j → (∀ i, i < k → st.1 140 i = st.1 169 i ∧ st.2 141 i = st.2 170 (0 + i) ∧ st.2 145 i = st.2 170 (8 + i) ∧ st.2 146 i = st.2 170 (16 + i) ∧ st.2 147 i = st.2 170 (24 + i) ∧ st.2 148 i = st.2 170 (32 + i)) → ∃ st1, fX11_lays_L33 n j (nI k) st = fX11_lays_s129 n st1 ∧ (∀ o, o ≠ 140 → st1.1 o = st.1 o) ∧ (∀ o, o ≠ 141 → o ≠ 145 → o ≠ 146 → o ≠ 147 → o ≠ 148 → st1.2 o = st.2 o) ∧ ∀ i, i < 8 → st1.1 140 i = st1.1 169 i ∧ st1.2 141 i = st1.2 170 (0 + i) ∧ st1.2 145 i = st1.2 170 (8 + i) ∧ st1.2 146 i = st1.2 170 (16 + i) ∧ st1.2 147 i = st1.2 170 (24 + i) ∧ st1.2 148 i = st1.2 170 (32 + i) := by
  intro j
  induction j with
  | zero => intro k st _ hj; omega
  | succ j ih =>
    intro k st hk hj h0
    simp only [fX11_lays_L33, fX11_lays_s33]
    by_cases q : k = 8
    · subst q
      rw [if_pos (show (8 : Int32) ≤ nI 8 by decide)]
      exact ⟨st, rfl, fun _ _ => rfl, fun _ _ _ _ _ _ => rfl, h0⟩
    · rw [if_neg (show ¬ (8 : Int32) ≤ nI k from nI_ge (b := 8) (by omega) (by decide))]
      have i1 : inb (nI k) 8 = true := inb_nI (by omega) (by decide)
      have i2 : inb (nI k) 40 = true := inb_nI (by omega) (by decide)
      have c1 : (nI k).toNatClampNeg = k := nI_clamp (by omega)
      have e8 : (8 : Int32) + nI k = nI (8 + k) := nI_add 8 k
      have i8 : inb (nI (8 + k)) 40 = true := inb_nI (by omega) (by decide)
      have c8 : (nI (8 + k)).toNatClampNeg = 8 + k := nI_clamp (by omega)
      have e16 : (16 : Int32) + nI k = nI (16 + k) := nI_add 16 k
      have i16 : inb (nI (16 + k)) 40 = true := inb_nI (by omega) (by decide)
      have c16 : (nI (16 + k)).toNatClampNeg = 16 + k := nI_clamp (by omega)
      have e24 : (24 : Int32) + nI k = nI (24 + k) := nI_add 24 k
      have i24 : inb (nI (24 + k)) 40 = true := inb_nI (by omega) (by decide)
      have c24 : (nI (24 + k)).toNatClampNeg = 24 + k := nI_clamp (by omega)
      have e32 : (32 : Int32) + nI k = nI (32 + k) := nI_add 32 k
      have i32 : inb (nI (32 + k)) 40 = true := inb_nI (by omega) (by decide)
      have c32 : (nI (32 + k)).toNatClampNeg = 32 + k := nI_clamp (by omega)
      simp only [fX11_lays_s39, fX11_lays_s51, fX11_lays_s63, fX11_lays_s78, fX11_lays_s93, fX11_lays_s108, fX11_lays_s123, i1, i2, c1, e8, e16, e24, e32, i8, i16, i24, i32, c8, c16, c24, c32, if_true, nI_1]
      have eS : ∀ X : St, X = (setJ (setJ (setJ (setJ (setJ (setI st 140 k (st.1 169 k)) 141 k (st.2 170 (0 + k))) 145 k (st.2 170 (8 + k))) 146 k (st.2 170 (16 + k))) 147 k (st.2 170 (24 + k))) 148 k (st.2 170 (32 + k))) → (∃ st1, fX11_lays_L33 n j (nI (k + 1)) X = fX11_lays_s129 n st1 ∧ (∀ o, o ≠ 140 → st1.1 o = st.1 o) ∧ (∀ o, o ≠ 141 → o ≠ 145 → o ≠ 146 → o ≠ 147 → o ≠ 148 → st1.2 o = st.2 o) ∧ ∀ i, i < 8 → st1.1 140 i = st1.1 169 i ∧ st1.2 141 i = st1.2 170 (0 + i) ∧ st1.2 145 i = st1.2 170 (8 + i) ∧ st1.2 146 i = st1.2 170 (16 + i) ∧ st1.2 147 i = st1.2 170 (24 + i) ∧ st1.2 148 i = st1.2 170 (32 + i)) := by
        intro X eX
        obtain ⟨st1, g1, g2, g3, g4⟩ := ih (k + 1) X (by omega) (by omega) (fun i hi => by
          rw [eX]
          by_cases z : i = k
          · subst z
            simp (disch := omega) only [sI_at, sI_o, sI_2, sJ_1, sJ_at, sJ_k, sJ_o, and_self]
          · have := h0 i (by omega)
            simp (disch := omega) only [sI_k, sI_o, sI_2, sJ_1, sJ_k, sJ_o]
            exact this)
        exact ⟨st1, g1, fun o o1 => by rw [g2 o o1, eX]; simp (disch := assumption) only [sJ_1, sI_o], fun o o1 o2 o3 o4 o5 => by rw [g3 o o1 o2 o3 o4 o5, eX]; simp (disch := assumption) only [sJ_o, sI_2], g4⟩
      refine eS _ ?_
      simp (disch := omega) only [sI_o, sI_2, sJ_o, sJ_k, sJ_1, Nat.zero_add]
