theorem SPcost (n : Nat) : SP_cost n Inv := by
  intro a st hI
  obtain ⟨N, R, hP, hR, hT, hF, hTo, hL, hV, hW, hLe⟩ := id hI
  obtain ⟨h8, e9, e0, hrows, hal, hfs, hsh, hst⟩ := id hP
  obtain ⟨w, fs, md, sd, stk, slt, od, osh, snt, orH, snH, hw, hfs0, hN0, hFl, hPa⟩ := id hF
  have f17 := hFl.2.2.2.2.2.2.2.2.2.2.2.2.1
  by_cases h : 0 ≤ a ∧ a < nI N
  · obtain ⟨s, hs, rfl⟩ := st_of (by omega) h
    refine ⟨st.2 63 s, st, st, ?_, ?_, hI⟩
    · simp only [fX10_cost, fX10_cost_s0, phas, Option.bind_some, e9, b1_pos h, fX10_cost_s8, fX10_cost_s11, fX10_cost_s26, inb_nI (show s < 8 by omega) (by decide), nI_clamp (show s < 2 ^ 31 by omega), if_true]
      rfl
    · simp only [fX11_cost, fX11_cost_s0, pstage n (nI s) st e0 h8, Option.bind_some, b1_pos h, fX11_cost_s5, fX11_cost_s8, fX11_cost_s20, inb_nI (show s < 8 by omega) (by decide), nI_clamp (show s < 2 ^ 31 by omega), if_true]
      rw [← f17 s (by omega)]
      rfl
  · refine ⟨-9223372036854775808, st, st, ?_, ?_, hI⟩
    · simp only [fX10_cost, fX10_cost_s0, phas, Option.bind_some, e9, b1_neg h, fX10_cost_s8, fX10_cost_s23, fX10_cost_s26, if_true]
    · simp only [fX11_cost, fX11_cost_s0, pstage n a st e0 h8, Option.bind_some, b1_neg h, fX11_cost_s5, fX11_cost_s17, fX11_cost_s20, if_true]
theorem SPslot (n : Nat) : SP_slot n Inv := by
  intro a i st hI
  obtain ⟨N, R, hP, hR, hT, hF, hTo, hL, hV, hW, hLe⟩ := id hI
  obtain ⟨h8, e9, e0, hrows, hal, hfs, hsh, hst⟩ := id hP
  obtain ⟨w, fs, md, sd, stk, slt, od, osh, snt, orH, snH, hw, hfs0, hN0, hFl, hPa⟩ := id hF
  have f8 := hFl.2.2.1
  by_cases h : 0 ≤ a ∧ a < nI N
  · obtain ⟨s, hs, rfl⟩ := st_of (by omega) h
    obtain ⟨y, hy1, hy6, ey⟩ := (hst s hs).2.2.1
    by_cases hi : 1 ≤ i ∧ i ≤ nI y
    · obtain ⟨j, hj, rfl⟩ := nI_of2 (x := i) (M := nI y) (n := y) (nI_toInt (by omega)) (le_of_nlt32.mpr (Int32.le_trans (by decide) hi.1)) hi.2
      have hj1 : 1 ≤ j := by
        have := hi.1
        rw [Int32.le_iff_toInt_le, nI_toInt (by omega)] at this
        have e : (1 : Int32).toInt = 1 := rfl
        omega
      obtain ⟨k, rfl⟩ : ∃ k, j = k + 1 := ⟨j - 1, by omega⟩
      have hsl := flow_stk hFl hw (by omega) (show s < 8 by omega)
      have hle := sumN_le (f := slt s) 6 k (by omega)
      have ef := f8 s k (by omega) (by omega)
      refine ⟨nI (slt s k), st, st, ?_, ?_, hI⟩
      · have ei : nI s * 6 + nI (k + 1) - 1 = nI (6 * s + k) := by
          rw [show (6 : Int32) = nI 6 from rfl, pk_mul, nI_add, show s * 6 + (k + 1) = (6 * s + k) + 1 by omega, nI_pred]
        simp only [fX10_slot, fX10_slot_s0, phas, Option.bind_some, e9, b1_pos h, fX10_slot_s8, fX10_slot_s11, inb_nI (show s < 8 by omega) (by decide), nI_clamp (show s < 2 ^ 31 by omega), if_true, ey, pw, b1_pos hi, fX10_slot_s25, fX10_slot_s30, ei, inb_nI (show 6 * s + k < 48 by omega) (by decide), nI_clamp (show 6 * s + k < 2 ^ 31 by omega)]
        rw [ef.1]
        rfl
      · simp only [fX11_slot, fX11_slot_s0, pstage n (nI s) st e0 h8, Option.bind_some, b1_pos h, fX11_slot_s5, fX11_slot_s8, inb_nI (show s < 8 by omega) (by decide), nI_clamp (show s < 2 ^ 31 by omega), if_true, hrows.2.2.1, ey, pinl (lo := 1) (hi := nI y) (lo' := 1) (by decide) rfl, b1_pos hi, fX11_slot_s21, fX11_slot_s24, i7mul, inb_nI (show 7 * s + (k + 1) < 56 by omega) (by decide), nI_clamp (show 7 * s + (k + 1) < 2 ^ 31 by omega), fX11_slot_s40]
        rw [← Nat.add_assoc, ef.2, lN_i]
        rfl
    · refine ⟨-1, st, st, ?_, ?_, hI⟩
      · simp only [fX10_slot, fX10_slot_s0, phas, Option.bind_some, e9, b1_pos h, fX10_slot_s8, fX10_slot_s11, inb_nI (show s < 8 by omega) (by decide), nI_clamp (show s < 2 ^ 31 by omega), if_true, ey, pw, b1_neg hi, fX10_slot_s25, fX10_slot_s28]
        rfl
      · simp only [fX11_slot, fX11_slot_s0, pstage n (nI s) st e0 h8, Option.bind_some, b1_pos h, fX11_slot_s5, fX11_slot_s8, inb_nI (show s < 8 by omega) (by decide), nI_clamp (show s < 2 ^ 31 by omega), if_true, hrows.2.2.1, ey, pinl (lo := 1) (hi := nI y) (lo' := 1) (by decide) rfl, b1_neg hi, fX11_slot_s21, fX11_slot_s39, fX11_slot_s40]
        rfl
  · refine ⟨-1, st, st, ?_, ?_, hI⟩
    · simp only [fX10_slot, fX10_slot_s0, phas, Option.bind_some, e9, b1_neg h, fX10_slot_s8, fX10_slot_s28]
      rfl
    · simp only [fX11_slot, fX11_slot_s0, pstage n a st e0 h8, Option.bind_some, b1_neg h, fX11_slot_s5, fX11_slot_s39, fX11_slot_s40]
      rfl
/-- a stage isn't its own supplier -/
theorem no_self {st : St} {N R : Nat} (hP : PlanI st N R) {s : Nat} : ∀ c, c < N → c ≠ 0 → st.1 3 c = nI s → s < 8 → c ≠ s := by
  intro c hc h0 e hs8 q
  subst q
  obtain ⟨p, hp, ep, -⟩ := ((hP.2.2.2.2.2.2.2 c hc).2.1 h0).2
  have := (nI_eq (a := p) (b := c) (by omega) (by omega)).mp (ep.symm.trans e)
  omega
theorem m_owesN {st : St} {N R w : Nat} {fs md sd : Nat} {stk : Nat → Nat} {slt : Nat → Nat → Nat} {od osh snt : Nat → Nat} {orH snH : Nat → Nat → Nat} {b : Nat} {kd dl : Nat → Int32} (hP : PlanI st N R) (hFl : FlowN st b N w kd (st.1 3) dl fs md sd stk slt od osh snt orH snH) (n s : Nat) (hn : 10 ≤ n) (hs : s < 8) : fX11_owes n (nI s) st = some (lN (owesN N (st.1 3) od osh s), st) := by
  rw [m_owes n s st _ hn hs (fun c hc => hFl.2.2.2.2.2.2.1 s c hs hc), owes_row hs (fun c h1 h2 h3 => no_self hP c h1 h2 h3 hs)]
theorem SPowed (n : Nat) : SP_owed n Inv := by
  intro a c st hI
  obtain ⟨N, R, hP, hR, hT, hF, hTo, hL, hV, hW, hLe⟩ := id hI
  obtain ⟨h8, e9, e0, hrows, hal, hfs, hsh, hst⟩ := id hP
  obtain ⟨w, fs, md, sd, stk, slt, od, osh, snt, orH, snH, hw, hfs0, hN0, hFl, hPa⟩ := id hF
  have f10 := hFl.2.2.2.2.1
  have f11 := hFl.2.2.2.2.2.1
  have f12 := hFl.2.2.2.2.2.2.1
  by_cases h : 0 ≤ a ∧ a < nI N
  · obtain ⟨s, hs, rfl⟩ := st_of (by omega) h
    by_cases hc : 0 ≤ c ∧ c < nI N
    · obtain ⟨t, ht, rfl⟩ := st_of (by omega) hc
      obtain ⟨b, eb, hb⟩ := pshop n (nI s) st h8 e9
      have i1 : inb (nI s) 8 = true := inb_nI (by omega) (by decide)
      have i2 : inb (nI t) 8 = true := inb_nI (by omega) (by decide)
      have i3 : inb (nI (8 * s + t)) 64 = true := inb_nI (by omega) (by decide)
      have c1 : (nI s).toNatClampNeg = s := nI_clamp (by omega)
      have c2 : (nI t).toNatClampNeg = t := nI_clamp (by omega)
      have c3 : (nI (8 * s + t)).toNatClampNeg = 8 * s + t := nI_clamp (by omega)
      have ec : fX10_owed n (nI s) (nI t) st = fX10_owed_s32 n (nI s) (nI t) b st := by
        simp only [fX10_owed, fX10_owed_s0, phas, Option.bind_some, e9, b1_pos h, fX10_owed_s8, fX10_owed_s11, b1_pos hc, fX10_owed_s19, fX10_owed_s24, eb]
        rfl
      have em : fX11_owed n (nI s) (nI t) st = if st.1 2 s = 3 then fX11_owed_s28 n (nI s) (nI t) st else fX11_owed_s41 n (nI s) (nI t) st := by
        simp only [fX11_owed, fX11_owed_s0, pstage n (nI s) st e0 h8, pstage n (nI t) st e0 h8, Option.bind_some, b1_pos h, b1_pos hc, fX11_owed_s5, fX11_owed_s8, fX11_owed_s13, fX11_owed_s18, i1, c1, hrows.1, if_true]
        rfl
      suffices hq : ∃ r, fX10_owed n (nI s) (nI t) st = some (r, st) ∧ fX11_owed n (nI s) (nI t) st = some (r, st) by
        obtain ⟨r, h1, h2⟩ := hq
        exact ⟨r, st, st, h1, h2, hI⟩
      rw [ec, em]
      rcases hb with ⟨rfl, hs3⟩ | ⟨rfl, hs3⟩
      · have hk3 : st.1 2 s = 3 := by have := hs3.2; rwa [c1] at this
        rw [if_pos hk3]
        simp only [fX10_owed_s32, fX10_owed_s35, fX11_owed_s28]
        rw [if_neg (show ¬ (1 : Int32) = 0 by decide)]
        by_cases q : t = s
        · subst q
          have ho : owesN N (st.1 3) od osh t = osh t := by
            unfold owesN
            rw [sumN_congr (g := fun _ => 0) 8 (fun c' hc' => ?_)]
            · simp [sumN]
            · rw [if_neg]
              intro z
              obtain ⟨p, hp, ep, hp3⟩ := ((hst c' z.1).2.1 z.2.1).2
              have : p = t := (nI_eq (a := p) (b := t) (by omega) (by omega)).mp (ep.symm.trans z.2.2)
              rw [this] at hp3
              exact hp3 hk3
          refine ⟨nI (osh t), ?_, ?_⟩
          · rw [if_pos rfl]
            simp only [fX10_owed_s40, fX10_owed_s53, i1, c1, if_true]
            rw [show st.1 57 t = nI (owesN N (st.1 3) od osh t) from f10 t (by omega), ho]
          · rw [if_pos rfl]
            simp only [fX11_owed_s33, fX11_owed_s60, fX11_owed_s65, fX11_owed_s81, i8mul, i3, c3, if_true]
            have e : st.2 142 (8 * t + t) = lN (osh t) := by rw [f12 t t (by omega) (by omega), if_pos rfl]
            rw [e, lN_i]
            rfl
        · have q2 : ¬ nI t = nI s := fun z => q ((nI_eq (by omega) (by omega)).mp z)
          exact ⟨-1, by rw [if_neg q2]; rfl, by rw [if_neg q2]; rfl⟩
      · have hk3 : ¬ st.1 2 s = 3 := fun z => hs3 ⟨h, by rw [c1]; exact z⟩
        rw [if_neg hk3]
        simp only [fX10_owed_s32, fX10_owed_s54, fX11_owed_s41, fX11_owed_s45, i2, c2, if_true]
        by_cases t0 : t = 0
        · subst t0
          have es := ((hst 0 (by omega)).1 rfl).2
          refine ⟨-1, ?_, ?_⟩
          · rw [es, if_neg (fun z => by
              have := congrArg Int32.toInt z
              rw [nI_toInt (by omega)] at this
              have e : (-1 : Int32).toInt = -1 := rfl
              omega)]
            rfl
          · rfl
        · rw [if_neg (nI_ne0 (by omega) (by omega)), hrows.2.1]
          by_cases q : st.1 3 t = nI s
          · refine ⟨nI (od t), ?_, ?_⟩
            · rw [if_pos q]
              simp only [fX10_owed_s67, fX10_owed_s80, i2, c2, if_true]
              rw [show st.1 58 t = nI (od t) from f11 t (by omega)]
            · rw [if_pos q]
              simp only [fX11_owed_s55, fX11_owed_s60, fX11_owed_s65, fX11_owed_s81, i8mul, i3, c3, if_true]
              have e : st.2 142 (8 * s + t) = lN (od t) := by rw [f12 s t (by omega) (by omega), if_neg (no_self hP t ht t0 q (by omega)), if_pos ⟨ht, t0, q⟩]
              rw [e, lN_i]
              rfl
          · exact ⟨-1, by rw [if_neg q]; rfl, by rw [if_neg q]; rfl⟩
    · refine ⟨-1, st, st, ?_, ?_, hI⟩
      · simp only [fX10_owed, fX10_owed_s0, phas, Option.bind_some, e9, b1_pos h, fX10_owed_s8, fX10_owed_s11, b1_neg hc, fX10_owed_s19, fX10_owed_s22]
        rfl
      · simp only [fX11_owed, fX11_owed_s0, pstage n (nI s) st e0 h8, pstage n c st e0 h8, Option.bind_some, b1_pos h, b1_neg hc, fX11_owed_s5, fX11_owed_s8, fX11_owed_s13, fX11_owed_s16]
        rfl
  · refine ⟨-1, st, st, ?_, ?_, hI⟩
    · simp only [fX10_owed, fX10_owed_s0, phas, Option.bind_some, e9, b1_neg h, fX10_owed_s8, fX10_owed_s22]
      rfl
    · simp only [fX11_owed, fX11_owed_s0, pstage n a st e0 h8, Option.bind_some, b1_neg h, fX11_owed_s5, fX11_owed_s16]
      rfl
