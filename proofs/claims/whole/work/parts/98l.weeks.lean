/-! ===== weeks ===== -/
noncomputable def itD (D : WD) (E : PD) (dm : Nat → Nat) : Nat → WD
  | 0 => D
  | k + 1 => nxD (itD D E dm k) E dm
noncomputable def itM (D : WD) (E : PD) (dm : Nat → Nat) (md : Nat) : Nat → Nat
  | 0 => md
  | k + 1 => itM D E dm md k + oW (itD D E dm k) E 0
noncomputable def itS (D : WD) (E : PD) (dm : Nat → Nat) (sd : Nat) : Nat → Nat
  | 0 => sd
  | k + 1 => itS D E dm sd k + sdW (itD D E dm k)
noncomputable def itC (D : WD) (E : PD) (dm : Nat → Nat) (cst : Nat → Int64) : Nat → Nat → Int64
  | 0 => cst
  | k + 1 => cstW (itD D E dm k) E (itC D E dm cst k)
noncomputable def itO (D : WD) (E : PD) (dm : Nat → Nat) (k : Nat) : Nat := sumN (fun i => sdW (itD D E dm i)) k
theorem it_w (D : WD) (E : PD) (dm : Nat → Nat) : ∀ k, dWk (itD D E dm k) = dWk D + k ∧ dN (itD D E dm k) = dN D ∧ dKd (itD D E dm k) = dKd D ∧ (dDm D = dm → dDm (itD D E dm k) = dm) := by
  intro k
  induction k with
  | zero => exact ⟨rfl, rfl, rfl, fun h => h⟩
  | succ k ih =>
    obtain ⟨h1, h2, h3, h4⟩ := ih
    refine ⟨?_, h2, h3, fun _ => rfl⟩
    show dWk (itD D E dm k) + 1 = _
    omega
theorem it_pw {D : WD} {E : PD} {R fs md sd : Nat} {cst : Nat → Int64} (dm : Nat → Nat) (h : PW D E R fs md sd cst) (hm : dDm D = dm) (hd : ∀ s, s < 8 → dm s ≤ 999) : ∀ k, dWk D + k ≤ 400 → PW (itD D E dm k) E R fs (itM D E dm md k) (itS D E dm sd k) (itC D E dm cst k) := by
  intro k
  induction k with
  | zero => intro _; exact h
  | succ k ih =>
    intro hk
    obtain ⟨h1, h2, h3, h4⟩ := it_w D E dm k
    exact pw_nx (ih (by omega)) (by omega) (fun s hs => by rw [h4 hm]; exact hd s hs) dm
theorem c_set69 (n : Nat) (K60 : Int32 → Int32 → Int32 → Int32 → St → Option (Int32 × St)) (v1 v2 v3 v4 : Int32) : ∀ (j k : Nat) (st : St), k ≤ 8 → 8 - k < j → (∀ s, s < k → st.1 50 s = v2) → ∃ st1, fX10_weeks_L69 n K60 j v1 v2 v3 v4 (nI k) st = fX10_weeks_s93 n K60 v1 v2 v3 v4 st1 ∧ Same [(50, none)] [] st st1 ∧ ∀ s, s < 8 → st1.1 50 s = v2 := by
  intro j
  induction j with
  | zero => intro k st _ hj; omega
  | succ j ih =>
    intro k st hk hj h0
    simp only [fX10_weeks_L69, fX10_weeks_s69]
    by_cases q : k = 8
    · subst q
      rw [if_pos (show (8 : Int32) ≤ nI 8 by decide)]
      exact ⟨st, rfl, Same.rf, h0⟩
    · rw [if_neg (show ¬ (8 : Int32) ≤ nI k from nI_ge (b := 8) (by omega) (by decide))]
      simp only [fX10_weeks_s79, inb_nI (show k < 8 by omega) (by decide), nI_clamp (show k < 2 ^ 31 by omega), if_true, fX10_weeks_s87, nI_1]
      obtain ⟨st1, g0, g1, g3⟩ := ih (k + 1) (setI st 50 k v2) (by omega) (by omega) (fun s hs => by
        by_cases z : s = k
        · subst z; rw [sI_at]
        · rw [sI_k z]; exact h0 s (by omega))
      exact ⟨st1, g0, (same_I (Or.inl (mm2 0 rfl))).trans g1, g3⟩
theorem cw_told {st st1 : St} {D : WD} {E : PD} {R md sd : Nat} {cst : Nat → Int64} (h : CW st D E R md sd cst) (z : Same [(50, none)] [] st st1) : CW st1 D E R md sd cst := by
  have k : ∀ o, o ≠ 50 → st1.1 o = st.1 o := fun o ho => z.rI (by simp; omega)
  have kJ : st1.2 = st.2 := by funext o; exact z.rJ rfl
  obtain ⟨c1, c2, c3, c4⟩ := h
  exact ⟨c1.k (fun o ho => k o (by omega)), c2.k (fun o ho => k o (by omega)), c3.k (fun o h1 h2 => k o (by omega)) (fun o h1 h2 => by rw [kJ]), c4.k (k 22 (by decide)) (k 23 (by decide))⟩
theorem c_weeks (n R fs md sd d m : Nat) (hn : 200 ≤ n) (D : WD) (E : PD) (cst : Nat → Int64) (hW : PW D E R fs md sd cst) (hm : dDm D = fun _ => d) (hd : d ≤ 999) (hw : dWk D + m ≤ 400) (hm20 : m ≤ 20) : ∀ (j k : Nat) (st : St), k ≤ m → m - k < j → CW st (itD D E (fun _ => d) k) E R (itM D E (fun _ => d) md k) (itS D E (fun _ => d) sd k) (itC D E (fun _ => d) cst k) → (k = 0 ∨ ∀ s, s < 8 → st.1 50 s = 0) → ∃ st1, fX10_weeks_L60 n j (nI m) (nI d) (nI (itO D E (fun _ => d) k)) (nI k) st = some (nI (itO D E (fun _ => d) m), st1) ∧ CW st1 (itD D E (fun _ => d) m) E R (itM D E (fun _ => d) md m) (itS D E (fun _ => d) sd m) (itC D E (fun _ => d) cst m) ∧ (m = 0 ∨ ∀ s, s < 8 → st1.1 50 s = 0) := by
  intro j
  induction j with
  | zero => intro k st _ hj; omega
  | succ j ih =>
    intro k st hk hj hC h0
    simp only [fX10_weeks_L60, fX10_weeks_s60]
    by_cases q : k = m
    · subst q
      rw [if_pos (Int32.le_refl _)]
      exact ⟨st, rfl, hC, h0⟩
    · rw [if_neg (nI_ge (show k < m by omega) (by omega))]
      simp only [fX10_weeks_s66]
      obtain ⟨s1, a0, a1, a2⟩ := c_set69 n (fX10_weeks_L60 n j) (nI m) (nI d) (nI (itO D E (fun _ => d) k)) (nI k) n 0 st (by omega) (by omega) (fun s hs => absurd hs (by omega))
      rw [show nI 0 = 0 from rfl] at a0
      rw [a0]
      obtain ⟨h1, h2, h3, h4⟩ := it_w D E (fun _ => d) k
      obtain ⟨s2, b0, b1, b2⟩ := c_step n R fs _ _ hn (itD D E (fun _ => d) k) E _ (fun _ => d) (it_pw _ hW hm (fun _ _ => hd) k (by omega)) (by omega) (fun s hs => by rw [h4 hm]; exact hd) s1 (cw_told hC a1) (fun s hs _ => by rw [h4 hm]; exact a2 s (by have := hW.1.1.1; omega))
      simp only [fX10_weeks_s93, b0, Option.bind_some, fX10_weeks_s98, nI_add, nI_1]
      exact ih (k + 1) s2 (by omega) (by omega) b1 (Or.inr b2)
theorem m_dem2 (n N d : Nat) (kd : Nat → Int32) (hN : N ≤ 8) : ∀ (j k : Nat) (st : St), k ≤ N → N - k < j → st.1 130 0 = nI N → st.1 131 = kd → (∀ s, s < k → st.1 140 s = if kd s = 3 then nI d else 0) → ∃ st1, fX11_demands_L2 n j (nI d) (nI k) st = some ((), st1) ∧ Same [(140, none)] [] st st1 ∧ (∀ s, s < N → st1.1 140 s = if kd s = 3 then nI d else 0) ∧ ∀ s, N ≤ s → st1.1 140 s = st.1 140 s := by
  intro j
  induction j with
  | zero => intro k st _ hj; omega
  | succ j ih =>
    intro k st hk hj e0 ek h0
    simp only [fX11_demands_L2, fX11_demands_s2, e0]
    by_cases q : k = N
    · subst q
      rw [if_pos (Int32.le_refl _)]
      exact ⟨st, rfl, Same.rf, h0, fun _ _ => rfl⟩
    · rw [if_neg (nI_ge (show k < N by omega) (by omega))]
      have i1 : inb (nI k) 8 = true := inb_nI (by omega) (by decide)
      have c1 : (nI k).toNatClampNeg = k := nI_clamp (by omega)
      have go : ∀ v : Int32, v = (if kd k = 3 then nI d else 0) → ∃ st1, fX11_demands_s30 n (fX11_demands_L2 n j) (nI d) (nI k) (nI k) v st = some ((), st1) ∧ Same [(140, none)] [] st st1 ∧ (∀ s, s < N → st1.1 140 s = if kd s = 3 then nI d else 0) ∧ ∀ s, N ≤ s → st1.1 140 s = st.1 140 s := by
        intro v hv
        simp only [fX11_demands_s30, i1, c1, if_true, fX11_demands_s31, nI_1]
        obtain ⟨st1, g0, g1, g2, g3⟩ := ih (k + 1) (setI st 140 k v) (by omega) (by omega) (by rw [sI_o (by decide)]; exact e0) (by rw [sI_o (by decide)]; exact ek) (fun s hs => by
          by_cases z : s = k
          · subst z; rw [sI_at]; exact hv
          · rw [sI_k z]; exact h0 s (by omega))
        exact ⟨st1, g0, (same_I (Or.inl (mm2 0 rfl))).trans g1, g2, fun s hs => by rw [g3 s hs, sI_k (by omega)]⟩
      simp only [fX11_demands_s10, i1, c1, if_true, ek]
      by_cases z : kd k = 3
      · rw [if_pos z]
        simp only [fX11_demands_s25]
        exact go _ (by rw [if_pos z])
      · rw [if_neg z]
        simp only [fX11_demands_s29]
        exact go _ (by rw [if_neg z])
theorem mw_told {st st1 : St} {D : WD} {E : PD} {R md sd : Nat} {cst : Nat → Int64} (h : MW st D E R md sd cst) (z : Same [(140, none)] [] st st1) : MW st1 D E R md sd cst := by
  have k : ∀ o, o ≠ 140 → st1.1 o = st.1 o := fun o ho => z.rI (by simp; omega)
  have kJ : st1.2 = st.2 := by funext o; exact z.rJ rfl
  obtain ⟨m1, m2, m3⟩ := h
  exact ⟨m1.k (fun o h1 h2 => k o (by omega)), m2.k (fun o h1 h2 => k o h2), m3.k (by rw [k 130 (by decide)]) (fun o h1 h2 => by rw [kJ])⟩
theorem m_weeks (n R fs md sd d m : Nat) (hn : 2 ^ 27 ≤ n) (D : WD) (E : PD) (cst : Nat → Int64) (hW : PW D E R fs md sd cst) (hm : dDm D = fun _ => d) (hd : d ≤ 999) (hw : dWk D + m ≤ 400) (hm20 : m ≤ 20) : ∀ (j k : Nat) (st : St), k ≤ m → m - k < j → MW st (itD D E (fun _ => d) k) E R (itM D E (fun _ => d) md k) (itS D E (fun _ => d) sd k) (itC D E (fun _ => d) cst k) → (k = 0 ∨ ∀ s, s < dN D → st.1 140 s = 0) → ∃ st1, fX11_weeks_L57 n j (nI m) (nI d) (nI (itO D E (fun _ => d) k)) (nI k) st = some (nI (itO D E (fun _ => d) m), st1) ∧ MW st1 (itD D E (fun _ => d) m) E R (itM D E (fun _ => d) md m) (itS D E (fun _ => d) sd m) (itC D E (fun _ => d) cst m) ∧ (m = 0 ∨ ∀ s, s < dN D → st1.1 140 s = 0) ∧ ∀ s, dN D ≤ s → st1.1 140 s = st.1 140 s := by
  intro j
  induction j with
  | zero => intro k st _ hj; omega
  | succ j ih =>
    intro k st hk hj hC h0
    simp only [fX11_weeks_L57, fX11_weeks_s57]
    by_cases q : k = m
    · subst q
      rw [if_pos (Int32.le_refl _)]
      exact ⟨st, rfl, hC, h0, fun _ _ => rfl⟩
    · rw [if_neg (nI_ge (show k < m by omega) (by omega))]
      obtain ⟨h1, h2, h3, h4⟩ := it_w D E (fun _ => d) k
      have hN := hW.1.1.1
      have mp := hC.1
      have e0 : st.1 130 0 = nI (dN D) := by rw [← h2]; exact mp.1
      have ek : st.1 131 = dKd D := by rw [← h3]; exact mp.2.1
      obtain ⟨s1, a0, a1, a2, a3⟩ := m_dem2 n (dN D) d (dKd D) hN n 0 st (by omega) (by omega) e0 ek (fun s hs => absurd hs (by omega))
      rw [show nI 0 = 0 from rfl] at a0
      obtain ⟨s2, b0, b1, b2, b3⟩ := m_step n R fs _ _ hn (itD D E (fun _ => d) k) E _ (fun _ => d) (it_pw _ hW hm (fun _ _ => hd) k (by omega)) (by omega) (fun s hs => by rw [h4 hm]; exact hd) s1 (mw_told hC a1) (fun s hs h3' => by rw [h4 hm, a2 s (by omega), if_pos (by rw [← h3]; exact h3')])
      simp only [fX11_weeks_s63, fX11_demands, fX11_demands_s0, a0, Option.bind_some, fX11_weeks_s68, b0, fX11_weeks_s73, nI_add, nI_1]
      obtain ⟨s3, g0, g1, g2, g3⟩ := ih (k + 1) s2 (by omega) (by omega) b1 (Or.inr (fun s hs => b2 s (by omega)))
      exact ⟨s3, g0, g1, g2, fun s hs => by rw [g3 s hs, b3 s (by omega), a3 s hs]⟩
theorem SPweeks (n : Nat) (hn : 2 ^ 27 ≤ n) : SP_weeks n Inv2 := by
  intro a0 a1 st hI2
  obtain ⟨hI, hX⟩ := id hI2
  obtain ⟨N, R, hP, hR, hT, hF, hTo, hL, hV, hW, hLe⟩ := id hI
  obtain ⟨h8, e9, e0, hrows, hal, hfs, hsh, hst⟩ := id hP
  by_cases ha : 1 ≤ a0 ∧ a0 ≤ 20
  · by_cases hb : 0 ≤ a1 ∧ a1 ≤ 999
    · have c0 : fX10_weeks n a0 a1 st = fX10_weeks_s24 n a0 a1 st := by
        simp only [fX10_weeks, fX10_weeks_s0, pw, b1_pos ha, Option.bind_some, fX10_weeks_s7, if_neg (show ¬ (1 : Int32) = 0 by decide), fX10_weeks_s10, b1_pos hb, fX10_weeks_s18]
      have m0 : ∀ st1 : St, fX11_weeks n a0 a1 st1 = fX11_weeks_s27 n a0 a1 st1 := fun st1 => by
        simp only [fX11_weeks, fX11_weeks_s0, pinl (lo := 1) (hi := 20) (lo' := 1) (hi' := 20) (by decide) (by decide), b1_pos ha, Option.bind_some, fX11_weeks_s9, if_neg (show ¬ (1 : Int32) = 0 by decide), fX11_weeks_s12, pinl (lo := 0) (hi := 999) (lo' := 0) (hi' := 999) (by decide) (by decide), b1_pos hb, fX11_weeks_s21]
      by_cases hN : N = 0
      · subst hN
        refine ⟨-3, st, st, ?_, ?_, hI2⟩
        · rw [c0]
          simp only [fX10_weeks_s24, e9]
          rw [if_pos (show nI 0 = 0 from rfl)]; rfl
        · rw [m0]
          simp only [fX11_weeks_s27, e0]
          rw [if_pos (show nI 0 = 0 from rfl)]; rfl
      · obtain ⟨m, hm, rfl⟩ := nI_of2 (M := 20) (n := 20) rfl (le_of_nlt32.mpr (Int32.le_trans (by decide) ha.1)) ha.2
        obtain ⟨d, hd, rfl⟩ := nI_of2 (M := 999) (n := 999) rfl (le_of_nlt32.mpr hb.1) hb.2
        have hm1 : 1 ≤ m := by
          have := ha.1
          rw [Int32.le_iff_toInt_le, nI_toInt (by omega)] at this
          have e : (1 : Int32).toInt = 1 := rfl
          omega
        obtain ⟨D, E, fs, md, sd, cst, hWk, eD, eN⟩ := wk_of hI2 hP hR hF (by omega) (fun _ => d)
        obtain ⟨pw, cw, mw, hw⟩ := wk_split hWk
        have ew : st.1 53 10 = nI (dWk D) := cw.2.2.1.1.1
        have ew' : st.1 130 12 = nI (dWk D) := mw.2.2.1.1
        have c1 : fX10_weeks n (nI m) (nI d) st = fX10_weeks_s37 n (nI m) (nI d) st := by
          rw [c0]
          simp only [fX10_weeks_s24, e9]
          rw [if_neg (nI_ne0 (by omega) (by omega))]
        have m1 : ∀ st1 : St, st1.1 130 0 = nI N → fX11_weeks n (nI m) (nI d) st1 = fX11_weeks_s37 n (nI m) (nI d) st1 := fun st1 h => by
          rw [m0]
          simp only [fX11_weeks_s27, h]
          rw [if_neg (nI_ne0 (by omega) (by omega))]
        by_cases h4 : dWk D + m ≤ 400
        · obtain ⟨s1, b0, b1, b2⟩ := c_weeks n R fs md sd d m (by omega) D E cst pw eD hd h4 hm n 0 st (by omega) (by omega) cw (Or.inl rfl)
          rw [show nI (itO D E (fun _ => d) 0) = 0 from rfl, show nI 0 = 0 from rfl] at b0
          have h1 : fX10_weeks n (nI m) (nI d) st = some (nI (itO D E (fun _ => d) m), s1) := by
            rw [c1]
            simp only [fX10_weeks_s37, ew, nI_add]
            rw [if_pos (show nI (dWk D + m) ≤ 400 from nI_le (b := 400) h4 (by decide))]
            simp only [fX10_weeks_s55]
            exact b0
          have z1 := zX10_weeks n _ _ st _ h1
          have mw1 : MW s1 D E R md sd cst := mw_k mw z1 rfl rfl
          have k140 : s1.1 140 = st.1 140 := z1.rI rfl
          obtain ⟨s2, d0, d1, d2, d3⟩ := m_weeks n R fs md sd d m hn D E cst pw eD hd h4 hm n 0 s1 (by omega) (by omega) mw1 (Or.inl rfl)
          rw [show nI (itO D E (fun _ => d) 0) = 0 from rfl, show nI 0 = 0 from rfl] at d0
          have h2 : fX11_weeks n (nI m) (nI d) s1 = some (nI (itO D E (fun _ => d) m), s2) := by
            rw [m1 s1 (by rw [z1.1 130 0 (by unfold wOK uIX10_weeks; simp)]; exact e0)]
            have ew1 : s1.1 130 12 = nI (dWk D) := mw1.2.2.1.1
            simp only [fX11_weeks_s37, ew1, nI_add]
            rw [if_pos (show nI (dWk D + m) ≤ 400 from nI_le (b := 400) h4 (by decide))]
            simp only [fX11_weeks_s52]
            exact d0
          have z2 := zX11_weeks n _ _ s1 _ h2
          obtain ⟨i1, i2, i3, i4⟩ := it_w D E (fun _ => d) m
          obtain ⟨fI, fX⟩ := fin_of (cw_k b1 z2 rfl rfl) d1 (it_pw _ pw eD (fun _ _ => hd) m h4) (by omega)
          rw [i2, eN] at fI
          have k50 : s2.1 50 = s1.1 50 := z2.rI rfl
          have k51 : s2.1 51 = st.1 51 := (z2.rI rfl).trans (z1.rI rfl)
          refine ⟨_, s1, s2, h1, h2, ⟨N, R, PlanI_same z2 rfl rfl (PlanI_same z1 rfl rfl hP), RulesI_same z2 rfl rfl (RulesI_same z1 rfl rfl hR), TapeI_same z2 rfl rfl (TapeI_same z1 rfl rfl hT), fI, ⟨fun s hs => ?_, fun s hs => by rw [k51]; exact hTo.2 s hs⟩, LineI_same z2 rfl rfl (LineI_same z1 rfl rfl hL), LevI_same z2 rfl rfl (LevI_same z1 rfl rfl hV), WorstI_same z2 rfl rfl (WorstI_same z1 rfl rfl hW), LetI_same z2 rfl rfl (LetI_same z1 rfl rfl hLe)⟩, fX⟩
          have b2' := b2.resolve_left (by omega)
          have d2' := d2.resolve_left (by omega)
          rw [k50, b2' s hs]
          refine ⟨?_, ⟨0, by omega, rfl⟩, fun _ => rfl⟩
          by_cases q : s < N
          · exact d2' s (by omega)
          · rw [d3 s (by omega), k140, (hTo.1 s hs).1]; exact (hTo.1 s hs).2.2 (by omega)
        · refine ⟨-4, st, st, ?_, ?_, hI2⟩
          · rw [c1]
            simp only [fX10_weeks_s37, ew, nI_add]
            rw [if_neg (show ¬ nI (dWk D + m) ≤ 400 from nI_ge (a := 400) (by omega) (by omega))]; rfl
          · rw [m1 st e0]
            simp only [fX11_weeks_s37, ew', nI_add]
            rw [if_neg (show ¬ nI (dWk D + m) ≤ 400 from nI_ge (a := 400) (by omega) (by omega))]; rfl
    · refine ⟨-2, st, st, ?_, ?_, hI2⟩
      · simp only [fX10_weeks, fX10_weeks_s0, pw, b1_pos ha, Option.bind_some, fX10_weeks_s7, if_neg (show ¬ (1 : Int32) = 0 by decide), fX10_weeks_s10, b1_neg hb, fX10_weeks_s18, if_true, fX10_weeks_s21]
      · simp only [fX11_weeks, fX11_weeks_s0, pinl (lo := 1) (hi := 20) (lo' := 1) (hi' := 20) (by decide) (by decide), b1_pos ha, Option.bind_some, fX11_weeks_s9, if_neg (show ¬ (1 : Int32) = 0 by decide), fX11_weeks_s12, pinl (lo := 0) (hi := 999) (lo' := 0) (hi' := 999) (by decide) (by decide), b1_neg hb, fX11_weeks_s21, if_true, fX11_weeks_s24]
  · refine ⟨-2, st, st, ?_, ?_, hI2⟩
    · simp only [fX10_weeks, fX10_weeks_s0, pw, b1_neg ha, Option.bind_some, fX10_weeks_s7, if_true, fX10_weeks_s21]
    · simp only [fX11_weeks, fX11_weeks_s0, pinl (lo := 1) (hi := 20) (lo' := 1) (hi' := 20) (by decide) (by decide), b1_neg ha, Option.bind_some, fX11_weeks_s9, if_true, fX11_weeks_s24]
