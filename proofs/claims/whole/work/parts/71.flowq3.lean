/-- the latest week's row, of the class -/
theorem c_latest (n b c s : Nat) (st : St) {w : Nat} (hw : w ≤ 400) (ew : st.1 b 10 = nI w) (hs : s < 8) : fX1_latest n b c (nI s) st = some (if w = 0 then 0 else st.1 c (4 * s + (w - 1) % 4), st) := by
  simp only [fX1_latest, fX1_latest_s0, ew]
  by_cases h : w = 0
  · subst h
    rw [if_pos (show nI 0 = 0 from rfl), if_pos rfl]; rfl
  · obtain ⟨v, rfl⟩ : ∃ v, w = v + 1 := ⟨w - 1, by omega⟩
    rw [if_neg (nI_ne0 (by omega) (by omega)), if_neg h]
    simp only [fX1_latest_s11, fX1_latest_s25, ew, nI_pred]
    rw [show nI v - nI v / 4 * 4 = nI (v % 4) from pk_rem (d := 4) (by omega) (by decide) (by decide), show nI s * 4 + nI (v % 4) = nI (4 * s + v % 4) from by rw [show (4 : Int32) = nI 4 from rfl, pk_mul, nI_add, Nat.mul_comm], inb_nI (show 4 * s + v % 4 < 32 by omega) (by decide), if_pos rfl, nI_clamp (by omega)]
    rfl
theorem SPabout (n : Nat) (hn : 10 ≤ n) : SP_about n Inv := by
  intro a k st hI
  obtain ⟨N, R, hP, hR, hT, hF, hTo, hL, hV, hW, hLe⟩ := id hI
  obtain ⟨h8, e9, e0, hrows, hal, hfs, hsh, hst⟩ := id hP
  obtain ⟨w, fs, md, sd, stk, slt, od, osh, snt, orH, snH, hw, hfs0, hN0, hFl, hPa⟩ := id hF
  suffices hq : ∃ r, fX10_about n a k st = some (r, st) ∧ fX11_about n a k st = some (r, st) by
    obtain ⟨r, h1, h2⟩ := hq
    exact ⟨r, st, st, h1, h2, hI⟩
  by_cases h : 0 ≤ a ∧ a < nI N
  · obtain ⟨s, hs, rfl⟩ := st_of (by omega) h
    have hs8 : s < 8 := by omega
    have i1 : inb (nI s) 8 = true := inb_nI (by omega) (by decide)
    have c1 : (nI s).toNatClampNeg = s := nI_clamp (by omega)
    have ec : fX10_about n (nI s) k st = fX10_about_s13 n (nI s) k st := by
      simp only [fX10_about, fX10_about_s0, phas, Option.bind_some, e9, b1_pos h, fX10_about_s8]
      rfl
    obtain ⟨⟨f1, f2, f3, f4, f5, f6⟩, f7, f8, f9, f10, f11, f12, f13, f14, f15, f16, f17, -⟩ := id hFl
    by_cases hk : 0 ≤ k ∧ k ≤ 12
    · have em : fX11_about n (nI s) k st = fX11_about_s22 n (nI s) k st := by
        simp only [fX11_about, fX11_about_s0, pstage n (nI s) st e0 h8, Option.bind_some, b1_pos h, fX11_about_s5, fX11_about_s8, pinl (lo := 0) (hi := 12) (lo' := 0) (hi' := 12) (by decide) (by decide), b1_pos hk, fX11_about_s17]
        rfl
      rw [ec, em]
      have el := f16 s (w - 1) hs8
      have em1 := f17 s hs8
      obtain ⟨j, hj, rfl⟩ := nI_of2 (M := 12) (n := 12) rfl (le_of_nlt32.mpr hk.1) hk.2
      match j, hj with
      | 0, _ => exact ⟨st.1 2 s, by show fX10_about_s80 n (nI s) st = _; simp only [fX10_about_s80, i1, c1, if_true], by show fX11_about_s84 n (nI s) st = _; simp only [fX11_about_s84, i1, c1, if_true, hrows.1]⟩
      | 1, _ => exact ⟨st.1 3 s, by show fX10_about_s90 n (nI s) st = _; simp only [fX10_about_s90, i1, c1, if_true], by show fX11_about_s91 n (nI s) st = _; simp only [fX11_about_s91, i1, c1, if_true, hrows.2.1]⟩
      | 2, _ => exact ⟨st.1 4 s, by show fX10_about_s100 n (nI s) st = _; simp only [fX10_about_s100, i1, c1, if_true], by show fX11_about_s98 n (nI s) st = _; simp only [fX11_about_s98, i1, c1, if_true, hrows.2.2.1]⟩
      | 3, _ => exact ⟨st.1 5 s, by show fX10_about_s110 n (nI s) st = _; simp only [fX10_about_s110, i1, c1, if_true], by show fX11_about_s105 n (nI s) st = _; simp only [fX11_about_s105, i1, c1, if_true, hrows.2.2.2.1]⟩
      | 4, _ => exact ⟨st.1 6 s, by show fX10_about_s120 n (nI s) st = _; simp only [fX10_about_s120, i1, c1, if_true], by show fX11_about_s112 n (nI s) st = _; simp only [fX11_about_s112, i1, c1, if_true, hrows.2.2.2.2.1]⟩
      | 5, _ => exact ⟨st.1 7 s, by show fX10_about_s130 n (nI s) st = _; simp only [fX10_about_s130, i1, c1, if_true], by show fX11_about_s119 n (nI s) st = _; simp only [fX11_about_s119, i1, c1, if_true, hrows.2.2.2.2.2.1]⟩
      | 6, _ => exact ⟨nI (stk s), by show fX10_about_s140 n (nI s) st = _; simp only [fX10_about_s140, i1, c1, if_true]; rw [show st.1 54 s = nI (stk s) from (f7 s hs8).1], by show fX11_about_s126 n (nI s) st = _; simp only [fX11_about_s126, i1, c1, if_true, (f7 s hs8).2, lN_i]⟩
      | 7, _ => exact ⟨nI (owesN N (st.1 3) od osh s), by show fX10_about_s150 n (nI s) st = _; simp only [fX10_about_s150, i1, c1, if_true]; rw [show st.1 57 s = nI (owesN N (st.1 3) od osh s) from f10 s hs8], by show fX11_about_s134 n (nI s) st = _; simp only [fX11_about_s134, m_owesN hP hFl n s hn hs8, Option.bind_some, fX11_about_s139, lN_i]⟩
      | 8, _ => exact ⟨nI (sumN (slt s) 6), by show fX10_about_s160 n (nI s) st = _; simp only [fX10_about_s160, i1, c1, if_true]; rw [show st.1 56 s = nI (sumN (slt s) 6) from f9 s hs8], by show fX11_about_s141 n (nI s) st = _; simp only [fX11_about_s141, m_onWay n s st (slt s) hn hs8 (fun i hi => (f8 s i hs8 hi).2), Option.bind_some, fX11_about_s146, lN_i]⟩
      | 9, _ =>
        refine ⟨nI (if w = 0 then 0 else snH (w - 1) s), ?_, ?_⟩
        · show fX10_about_s170 n (nI s) st = _
          simp only [fX10_about_s170, c_latest n 53 61 s st hw f1 hs8, Option.bind_some, fX10_about_s185]
          by_cases z : w = 0
          · rw [if_pos z, if_pos z]; rfl
          · rw [if_neg z, if_neg z, show st.1 61 (4 * s + (w - 1) % 4) = nI (snH (w - 1) s) from (el (by omega) (by omega)).1]
        · show fX11_about_s148 n (nI s) st = _
          simp only [fX11_about_s148, i1, c1, if_true, em1.1, lN_i]
      | 10, _ =>
        refine ⟨nI (if w = 0 then 0 else orH (w - 1) s), ?_, ?_⟩
        · show fX10_about_s186 n (nI s) st = _
          simp only [fX10_about_s186, c_latest n 53 62 s st hw f1 hs8, Option.bind_some, fX10_about_s201]
          by_cases z : w = 0
          · rw [if_pos z, if_pos z]; rfl
          · rw [if_neg z, if_neg z, show st.1 62 (4 * s + (w - 1) % 4) = nI (orH (w - 1) s) from (el (by omega) (by omega)).2]
        · show fX11_about_s156 n (nI s) st = _
          simp only [fX11_about_s156, i1, c1, if_true, em1.2, lN_i]
      | 11, _ => exact ⟨st.1 10 s, by show fX10_about_s202 n (nI s) st = _; simp only [fX10_about_s202, i1, c1, if_true], by show fX11_about_s164 n (nI s) st = _; simp only [fX11_about_s164, i1, c1, if_true, hrows.2.2.2.2.2.2.2.2]⟩
      | 12, _ => exact ⟨nI (snt s), by show fX10_about_s212 n (nI s) st = _; simp only [fX10_about_s212, i1, c1, if_true]; rw [show st.1 60 s = nI (snt s) from (f15 s hs8).1], by show fX11_about_s171 n (nI s) st = _; simp only [fX11_about_s171, i1, c1, if_true, (f15 s hs8).2, lN_i]⟩
    · refine ⟨-1, ?_, ?_⟩
      · rw [ec]
        simp only [fX10_about_s13]
        have ne : ∀ j : Int32, (0 ≤ j ∧ j ≤ 12) → ¬ k = j := fun j hj q => hk (q ▸ hj)
        rw [if_neg (ne 0 (by decide)), if_neg (ne 1 (by decide)), if_neg (ne 2 (by decide)), if_neg (ne 3 (by decide)), if_neg (ne 4 (by decide)), if_neg (ne 5 (by decide)), if_neg (ne 6 (by decide)), if_neg (ne 7 (by decide)), if_neg (ne 8 (by decide)), if_neg (ne 9 (by decide)), if_neg (ne 10 (by decide)), if_neg (ne 11 (by decide)), if_neg (ne 12 (by decide))]
        rfl
      · simp only [fX11_about, fX11_about_s0, pstage n (nI s) st e0 h8, Option.bind_some, b1_pos h, fX11_about_s5, fX11_about_s8, pinl (lo := 0) (hi := 12) (lo' := 0) (hi' := 12) (by decide) (by decide), b1_neg hk, fX11_about_s17, fX11_about_s20]
        rfl
  · refine ⟨-1, ?_, ?_⟩
    · simp only [fX10_about, fX10_about_s0, phas, Option.bind_some, e9, b1_neg h, fX10_about_s8, fX10_about_s11]
      rfl
    · simp only [fX11_about, fX11_about_s0, pstage n a st e0 h8, Option.bind_some, b1_neg h, fX11_about_s5, fX11_about_s20]
      rfl
