/-! ===== worth ===== -/
section
variable {st : St} {b N R w : Nat} {kd sp dl : Nat → Int32} {fs md sd : Nat} {stk : Nat → Nat} {slt : Nat → Nat → Nat} {od osh snt : Nat → Nat} {orH snH : Nat → Nat → Nat}
def unsN (w : Nat) (dl : Nat → Int32) (od : Nat → Nat) (orH : Nat → Nat → Nat) (s : Nat) : Nat := if s = 0 then 0 else od s + sumN (pend orH w (dl s).toNatClampNeg s) 4
theorem ce_of (h : FlowN st b N w kd sp dl fs md sd stk slt od osh snt orH snH) {s : Nat} (hs : s < 8) : CE st b s w (stk s) (owesN N sp od osh s) (sumN (slt s) 6) (unsN w dl od orH s) (fun u => snH u s) := by
  obtain ⟨⟨f1, f2, f3, f4, f5, f6⟩, f7, f8, f9, f10, f11, f12, f13, f14, f15, f16, f17, -⟩ := id h
  exact ⟨(f7 s hs).1, f10 s hs, f9 s hs, f13 s hs, f1, fun u hu hw => (f16 s u hs hu hw).1⟩
theorem me_of (hP : PlanI st N R) (h : FlowN st b N w (st.1 2) (st.1 3) (st.1 5) fs md sd stk slt od osh snt orH snH) (hPa : PastN st w orH snH) {s : Nat} (hs : s < N) : ME st s w (stk s) (owesN N (st.1 3) od osh s) (sumN (slt s) 6) (unsN w (st.1 5) od orH s) (fun u => snH u s) := by
  obtain ⟨h8, e9, e0, hrows, hal, hfs, hsh, hst⟩ := id hP
  obtain ⟨⟨f1, f2, f3, f4, f5, f6⟩, f7, f8, f9, f10, f11, f12, f13, f14, f15, f16, f17, -⟩ := id h
  have hs8 : s < 8 := by omega
  refine ⟨(f7 s hs8).2, ⟨_, fun c hc => f12 s c hs8 hc, owes_row hs8 (fun c h1 h2 h3 => no_self hP c h1 h2 h3 hs8)⟩, ⟨slt s, fun i hi => (f8 s i hs8 hi).2, rfl⟩, ?_, (f17 s hs8).1, fun u hu hw => (hPa s u hs8 hu (by omega)).2.2.1⟩
  rw [hrows.1, hrows.2.1]
  by_cases z : s = 0
  · subst z
    exact Or.inl ⟨((hst 0 hs).1 rfl).1, rfl⟩
  · obtain ⟨⟨k, hk1, hk3, ek⟩, p, hp, ep, -⟩ := (hst s hs).2.1 z
    refine Or.inr ⟨by rw [ek]; exact nI_ne0 (by omega) (by omega), p, od s, pend orH w ((st.1 5) s).toNatClampNeg s, by omega, ep, ?_, fun d hd => by rw [f14 s d hs8 hd, if_neg z], by unfold unsN; rw [if_neg z]⟩
    rw [f12 p s (by omega) hs8, if_neg (show ¬ s = p by omega), if_pos ⟨hs, z, ep⟩]
theorem ME.k {s W x0 x1 x2 x6 o1 : Nat} {hh : Nat → Nat} {st1 : St} (h : ME st s W x0 x1 x2 x6 hh) (k : kJ1 o1 st st1) (n1 : o1 = 14 ∨ o1 = 158) : ME st1 s W x0 x1 x2 x6 hh := by
  unfold ME at h ⊢
  rw [k.1, k.2 141 (by omega), k.2 142 (by omega), k.2 143 (by omega), k.2 144 (by omega), k.2 147 (by omega), k.2 149 (by omega)]
  exact h
theorem CE.k {s W x0 x1 x2 x6 : Nat} {hh : Nat → Nat} {st1 : St} (h : CE st b s W x0 x1 x2 x6 hh) (k : st1.1 = st.1) : CE st1 b s W x0 x1 x2 x6 hh := by
  unfold CE at h ⊢
  rw [k]
  exact h
end
theorem SPworth (n : Nat) (hn : 200 ≤ n) : SP_worth n Inv := by
  intro a0 a1 st hI
  obtain ⟨N, R, hP, hR, hT, hF, hTo, hL, hV, hW, hLe⟩ := id hI
  obtain ⟨h8, e9, e0, hrows, hal, hfs, hsh, hst⟩ := id hP
  obtain ⟨w, fs, md, sd, stk, slt, od, osh, snt, orH, snH, hw, hfs0, hN0, hFl, hPa⟩ := id hF
  obtain ⟨hR12, eR, eR', hru⟩ := id hR
  have em : ∀ st1 : St, fX11_in n a0.toInt64 0 ((nI R - 1).toInt64) st1 = some (b1 (0 ≤ a0 ∧ a0 < nI R), st1) := by
    intro st1
    rw [pinl (lo := 0) (hi := nI R - 1) (lo' := 0) (by decide) rfl]
    congr 2
    exact b1_iff (pm1 (by omega) a0 0)
  by_cases ha : 0 ≤ a0 ∧ a0 < nI R
  · by_cases hb : 0 ≤ a1 ∧ a1 < nI N
    · obtain ⟨r, hr, rfl⟩ := st_of (by omega) ha
      obtain ⟨s, hs, rfl⟩ := st_of (by omega) hb
      obtain ⟨len, el, el', hl1, hl2, hstp, hdp⟩ := hru r hr
      have hs8 : s < 8 := by omega
      have q0 := flow_stk hFl hw (by omega) hs8
      have q1 := flow_owes hFl hw s
      have q6 : unsN w (st.1 5) od orH s ≤ 4039596 := flow_uns hFl hw s ((st.1 5) s).toNatClampNeg
      have hh : ∀ u, snH u s ≤ 79992 := fun u => flow_sn hFl u s
      have hC := ce_of hFl hs8
      have hM := me_of hP hFl hPa hs
      obtain ⟨st1, ev1, k1⟩ := c_value n 53 r s len hn (by omega) st (FdV w (stk s) (owesN N (st.1 3) od osh s) (sumN (slt s) 6) (unsN w (st.1 5) od orH s) (fun u => snH u s)) (fun j => st.1 12 (120 * r + j)) hl2 (fun _ _ => rfl) (fun j hj => ⟨_, hstp j hj⟩) el hdp (fun st' k' => c_field n 53 s w _ _ _ _ _ hn hs8 hw hh (by omega) (by omega) (by omega) (by omega) st' (hC.k k'.1))
      have hM1 := hM.k k1 (Or.inl rfl)
      obtain ⟨st2, ev2, k2⟩ := m_value n r s len (nI w - 1) hn (by omega) st1 (FdV w (stk s) (owesN N (st.1 3) od osh s) (sumN (slt s) 6) (unsN w (st.1 5) od orH s) (fun u => snH u s)) (FdV_bd w _ _ _ _ _ hw hh (by omega) (by omega) (by omega) (by omega)) (fun j => st.1 12 (120 * r + j)) hl2 (fun j hj => by rw [k1.1]; exact hstp j hj) (by rw [k1.1]; exact el') hdp (fun st' k' => m_field n s w _ _ _ _ _ hn hs8 hw hh st' (hM1.k k' (Or.inr rfl)))
      have h1 : fX10_worth n (nI r) (nI s) st = some (vlJ (FdV w (stk s) (owesN N (st.1 3) od osh s) (sumN (slt s) 6) (unsN w (st.1 5) od orH s) (fun u => snH u s)) (fun j => st.1 12 (120 * r + j)) len, st1) := by
        simp only [fX10_worth, fX10_worth_s0, phasR, eR, Option.bind_some, b1_pos ha, fX10_worth_s8, if_neg (show ¬ (1 : Int32) = 0 by decide), fX10_worth_s11, phas, e9, b1_pos hb, fX10_worth_s19, fX10_worth_s22, ev1, fX10_worth_s35, fX10_worth_s41]
      have h2 : fX11_worth n (nI r) (nI s) st1 = some (vlJ (FdV w (stk s) (owesN N (st.1 3) od osh s) (sumN (slt s) 6) (unsN w (st.1 5) od orH s) (fun u => snH u s)) (fun j => st.1 12 (120 * r + j)) len, st2) := by
        have ew : st1.1 130 12 = nI w := by rw [k1.1]; exact hFl.1.2.1
        have e0' : st1.1 130 0 = nI N := by rw [k1.1]; exact e0
        have eR1 : st1.1 130 28 = nI R := by rw [k1.1]; exact eR'
        simp only [fX11_worth, fX11_worth_s0, eR1, em, Option.bind_some, b1_pos ha, fX11_worth_s13, if_neg (show ¬ (1 : Int32) = 0 by decide), fX11_worth_s16, pstage n (nI s) st1 e0' h8, b1_pos hb, fX11_worth_s21, fX11_worth_s24, ew, ev2, fX11_worth_s36, fX11_worth_s42]
      exact ⟨_, st1, st2, h1, h2, Inv.ess ((Ess.of (zX10_worth n _ _ st _ h1) rfl rfl).trans (Ess.of (zX11_worth n _ _ st1 _ h2) rfl rfl)) hI⟩
    · refine ⟨-9223372036854775808, st, st, ?_, ?_, hI⟩
      · simp only [fX10_worth, fX10_worth_s0, phasR, eR, Option.bind_some, b1_pos ha, fX10_worth_s8, if_neg (show ¬ (1 : Int32) = 0 by decide), fX10_worth_s11, phas, e9, b1_neg hb, fX10_worth_s19, if_true, fX10_worth_s38, fX10_worth_s41]
      · simp only [fX11_worth, fX11_worth_s0, eR', em, Option.bind_some, b1_pos ha, fX11_worth_s13, if_neg (show ¬ (1 : Int32) = 0 by decide), fX11_worth_s16, pstage n a1 st e0 h8, b1_neg hb, fX11_worth_s21, if_true, fX11_worth_s39, fX11_worth_s42]
  · refine ⟨-9223372036854775808, st, st, ?_, ?_, hI⟩
    · simp only [fX10_worth, fX10_worth_s0, phasR, eR, Option.bind_some, b1_neg ha, fX10_worth_s8, if_true, fX10_worth_s38, fX10_worth_s41]
    · simp only [fX11_worth, fX11_worth_s0, eR', em, Option.bind_some, b1_neg ha, fX11_worth_s13, if_true, fX11_worth_s39, fX11_worth_s42]
