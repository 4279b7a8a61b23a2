/-! ===== week, weeks ===== -/
def CW (st : St) (D : WD) (E : PD) (R md sd : Nat) (cst : Nat → Int64) : Prop := CP st D ∧ CQ st E R ∧ CFl st 53 D md sd cst ∧ PsC st D
def MW (st : St) (D : WD) (E : PD) (R md sd : Nat) (cst : Nat → Int64) : Prop := MP st D ∧ MQ2 st E R ∧ MFl st D md sd cst
def PW (D : WD) (E : PD) (R fs md sd : Nat) (cst : Nat → Int64) : Prop := PPn D ∧ PU D fs md sd cst ∧ PPl E (dN D) R ∧ fs ≤ 9999 * dN D
theorem pw_pf {D : WD} {E : PD} {R fs md sd : Nat} {cst : Nat → Int64} (h : PW D E R fs md sd cst) (hw : dWk D < 400) (hd : ∀ s, s < 8 → dDm D s ≤ 999) : PFl D := pfl_of h.1 h.2.1 (by have := h.1.1.1; have := h.2.2.2; omega) hw hd
theorem pw_nx {D : WD} {E : PD} {R fs md sd : Nat} {cst : Nat → Int64} (h : PW D E R fs md sd cst) (hw : dWk D < 400) (hd : ∀ s, s < 8 → dDm D s ≤ 999) (dm : Nat → Nat) : PW (nxD D E dm) E R fs (md + oW D E 0) (sd + sdW D) (cstW D E cst) := ⟨h.1, pu_nx (pw_pf h hw hd) h.2.2.1 h.2.1 dm, h.2.2.1, h.2.2.2⟩
theorem Same.rI {LI LJ : List (Nat × Option Nat)} {st st1 : St} (h : Same LI LJ st st1) {o : Nat} (ho : LI.all (fun x => x.1 != o) = true) : st1.1 o = st.1 o := by
  funext k
  refine h.1 o k (fun w => ?_)
  rw [List.all_eq_true] at ho
  rcases w with w | w
  · have := ho _ w; simp at this
  · have := ho _ w; simp at this
theorem Same.rJ {LI LJ : List (Nat × Option Nat)} {st st1 : St} (h : Same LI LJ st st1) {o : Nat} (ho : LJ.all (fun x => x.1 != o) = true) : st1.2 o = st.2 o := by
  funext k
  refine h.2 o k (fun w => ?_)
  rw [List.all_eq_true] at ho
  rcases w with w | w
  · have := ho _ w; simp at this
  · have := ho _ w; simp at this
theorem CP.r {st st1 : St} {D : WD} (h : CP st D) (h1 : st1.1 1 = st.1 1) (h2 : st1.1 2 = st.1 2) (h3 : st1.1 3 = st.1 3) (h4 : st1.1 4 = st.1 4) (h5 : st1.1 5 = st.1 5) : CP st1 D := by unfold CP at h ⊢; rw [h1, h2, h3, h4, h5]; exact h
theorem CQ.r {st st1 : St} {E : PD} {R : Nat} (h : CQ st E R) (h10 : st1.1 10 = st.1 10) (h6 : st1.1 6 = st.1 6) (h7 : st1.1 7 = st.1 7) (h8 : st1.1 8 = st.1 8) (h9 : st1.1 9 = st.1 9) (h12 : st1.1 12 = st.1 12) (h11 : st1.1 11 = st.1 11) (h13 : st1.1 13 = st.1 13) : CQ st1 E R := by unfold CQ at h ⊢; rw [h10, h6, h7, h8, h9, h12, h11, h13]; exact h
theorem CP.nx {st : St} {D : WD} {E : PD} {dm : Nat → Nat} (h : CP st D) : CP st (nxD D E dm) := h
theorem MP.nx {st : St} {D : WD} {E : PD} {dm : Nat → Nat} (h : MP st D) : MP st (nxD D E dm) := h
theorem c_step (n R fs md sd : Nat) (hn : 200 ≤ n) (D : WD) (E : PD) (cst : Nat → Int64) (dm : Nat → Nat) (hW : PW D E R fs md sd cst) (hw : dWk D < 400) (hd : ∀ s, s < 8 → dDm D s ≤ 999) (st : St) (hC : CW st D E R md sd cst) (hdm : ∀ s, s < dN D → dKd D s = 3 → st.1 50 s = nI (dDm D s)) : ∃ st1, fX10_goBy n st = some (nI (sdW D), st1) ∧ CW st1 (nxD D E dm) E R (md + oW D E 0) (sd + sdW D) (cstW D E cst) ∧ ∀ s, s < 8 → st1.1 50 s = 0 := by
  obtain ⟨c1, c2, c3, c4⟩ := hC
  obtain ⟨st1, a0, a1, a2, a3⟩ := c_goByF n R md sd hn D E (pw_pf hW hw hd) hW.2.2.1 cst dm st c1 c2 hdm c3 c4
  have z := zX10_goBy n st _ a0
  exact ⟨st1, a0, ⟨(c1.r (z.rI rfl) (z.rI rfl) (z.rI rfl) (z.rI rfl) (z.rI rfl)).nx, c2.r (z.rI rfl) (z.rI rfl) (z.rI rfl) (z.rI rfl) (z.rI rfl) (z.rI rfl) (z.rI rfl) (z.rI rfl), a1, a2⟩, a3⟩
theorem MP_put {st : St} {D : WD} (h : MP st D) {v : Int32} : MP (setI st 130 12 v) D := by
  unfold MP at h ⊢
  rw [sI_k (by decide), sI_k (by decide), sI_o (by decide), sI_o (by decide), sI_o (by decide), sI_o (by decide)]
  exact h
theorem MP.z {LI LJ : List (Nat × Option Nat)} {st st1 : St} {D : WD} (h : MP st D) (z : Same LI LJ st st1) (h0 : st1.1 130 0 = st.1 130 0) (h10 : st1.1 130 10 = st.1 130 10) (h1 : LI.all (fun x => x.1 != 131) = true) (h2 : LI.all (fun x => x.1 != 132) = true) (h3 : LI.all (fun x => x.1 != 133) = true) (h4 : LI.all (fun x => x.1 != 134) = true) : MP st1 D := by
  unfold MP at h ⊢
  rw [h0, h10, z.rI h1, z.rI h2, z.rI h3, z.rI h4]; exact h
theorem MQ2.z {LI LJ : List (Nat × Option Nat)} {st st1 : St} {E : PD} {R : Nat} (h : MQ2 st E R) (z : Same LI LJ st st1) (h9 : LI.all (fun x => x.1 != 139) = true) (h5 : LI.all (fun x => x.1 != 135) = true) (h6 : LI.all (fun x => x.1 != 136) = true) (h7 : LI.all (fun x => x.1 != 137) = true) (h8 : LI.all (fun x => x.1 != 138) = true) (h3 : LI.all (fun x => x.1 != 153) = true) (h4 : LI.all (fun x => x.1 != 154) = true) : MQ2 st1 E R := by
  unfold MQ2 at h ⊢
  rw [z.rI h9, z.rI h5, z.rI h6, z.rI h7, z.rI h8, z.rI h3, z.rI h4]; exact h
theorem m_step (n R fs md sd : Nat) (hn : 2 ^ 27 ≤ n) (D : WD) (E : PD) (cst : Nat → Int64) (dm : Nat → Nat) (hW : PW D E R fs md sd cst) (hw : dWk D < 400) (hd : ∀ s, s < 8 → dDm D s ≤ 999) (st : St) (hM : MW st D E R md sd cst) (hdm : ∀ s, s < dN D → dKd D s = 3 → st.1 140 s = nI (dDm D s)) : ∃ st1, fX11_goesBy n st = some (nI (sdW D), st1) ∧ MW st1 (nxD D E dm) E R (md + oW D E 0) (sd + sdW D) (cstW D E cst) ∧ (∀ s, s < dN D → st1.1 140 s = 0) ∧ ∀ s, dN D ≤ s → st1.1 140 s = st.1 140 s := by
  obtain ⟨c1, c2, c3⟩ := hM
  obtain ⟨st1, a0, a1, a2, a3⟩ := m_goesByF n R md sd hn D E (pw_pf hW hw hd) hW.2.2.1 cst dm st c1 c2 hdm c3
  have z := zX11_goesBy n st _ a0
  exact ⟨st1, a0, ⟨(c1.z z (z.1 130 0 (by unfold wOK uIX11_goesBy; simp)) (z.1 130 10 (by unfold wOK uIX11_goesBy; simp)) rfl rfl rfl rfl).nx, c2.z z rfl rfl rfl rfl rfl rfl rfl, a1⟩, a2, a3⟩
theorem MFl.k {st st1 : St} {D : WD} {md sd : Nat} {cst : Nat → Int64} (h : MFl st D md sd cst) (k1 : st1.1 130 12 = st.1 130 12) (k2 : ∀ o, 130 ≤ o → o ≤ 150 → st1.2 o = st.2 o) : MFl st1 D md sd cst := by
  unfold MFl M1 at h ⊢
  rw [k1, k2 130 (by omega) (by omega), k2 141 (by omega) (by omega), k2 142 (by omega) (by omega), k2 143 (by omega) (by omega), k2 144 (by omega) (by omega), k2 145 (by omega) (by omega), k2 146 (by omega) (by omega), k2 147 (by omega) (by omega), k2 148 (by omega) (by omega), k2 149 (by omega) (by omega), k2 150 (by omega) (by omega)]
  exact h
theorem CFl.k {st st1 : St} {b : Nat} {D : WD} {md sd : Nat} {cst : Nat → Int64} (h : CFl st b D md sd cst) (k1 : ∀ o, b ≤ o → o ≤ b + 10 → st1.1 o = st.1 o) (k2 : ∀ o, b ≤ o → o ≤ b + 10 → st1.2 o = st.2 o) : CFl st1 b D md sd cst := by
  unfold CFl R1 at h ⊢
  rw [k1 b (by omega) (by omega), k1 (b + 1) (by omega) (by omega), k1 (b + 2) (by omega) (by omega), k1 (b + 3) (by omega) (by omega), k1 (b + 4) (by omega) (by omega), k1 (b + 5) (by omega) (by omega), k1 (b + 6) (by omega) (by omega), k1 (b + 7) (by omega) (by omega), k1 (b + 8) (by omega) (by omega), k1 (b + 9) (by omega) (by omega), k2 b (by omega) (by omega), k2 (b + 10) (by omega) (by omega)]
  exact h
theorem PsC.k {st st1 : St} {D : WD} (h : PsC st D) (k1 : st1.1 22 = st.1 22) (k2 : st1.1 23 = st.1 23) : PsC st1 D := by
  unfold PsC at h ⊢
  rw [k1, k2]; exact h
/-- a frame that leaves the rows from lo to hi alone -/
theorem Same.lo {LI LJ : List (Nat × Option Nat)} {st st1 : St} (h : Same LI LJ st st1) (lo hi : Nat) (hI : LI.all (fun x => decide (x.1 < lo) || decide (hi < x.1)) = true) : ∀ o, lo ≤ o → o ≤ hi → st1.1 o = st.1 o := by
  intro o h1 h2
  refine h.rI ?_
  rw [List.all_eq_true] at hI ⊢
  intro x hx
  have := hI x hx
  simp only [Bool.or_eq_true, decide_eq_true_eq] at this
  simp only [bne_iff_ne]
  omega
theorem Same.loJ {LI LJ : List (Nat × Option Nat)} {st st1 : St} (h : Same LI LJ st st1) (lo hi : Nat) (hJ : LJ.all (fun x => decide (x.1 < lo) || decide (hi < x.1)) = true) : ∀ o, lo ≤ o → o ≤ hi → st1.2 o = st.2 o := by
  intro o h1 h2
  refine h.rJ ?_
  rw [List.all_eq_true] at hJ ⊢
  intro x hx
  have := hJ x hx
  simp only [Bool.or_eq_true, decide_eq_true_eq] at this
  simp only [bne_iff_ne]
  omega
theorem fin_of {st : St} {D : WD} {E : PD} {R fs md sd : Nat} {cst : Nat → Int64} (hC : CW st D E R md sd cst) (hM : MW st D E R md sd cst) (hW : PW D E R fs md sd cst) (hw : dWk D ≤ 400) : FlowI st (dN D) ∧ Ext st := by
  obtain ⟨c1, c2, c3, c4⟩ := hC
  obtain ⟨m1, m2, m3⟩ := hM
  refine ⟨⟨dWk D, fs, md, sd, dSk D, dSl D, dOd D, dOs D, (fun s => if s < 8 then dSn D s else 0), dOr D, dSe D, hw, hW.2.2.2, fun h => absurd h (by have := hW.1.1.2.1; omega), ?_, past_of m3 c4⟩, ext_of c3 m3 hW.2.1 c4 hw⟩
  rw [c1.2.1, c1.2.2.1, c1.2.2.2.2.1]
  exact flow_of c3 m3 hW.2.1
theorem wk_split {st : St} {D : WD} {E : PD} {R fs md sd : Nat} {cst : Nat → Int64} (h : Wk st D E R fs md sd cst) : PW D E R fs md sd cst ∧ CW st D E R md sd cst ∧ MW st D E R md sd cst ∧ dWk D ≤ 400 := by
  obtain ⟨⟨a, b, c, d, e⟩, f, g, h, i, j, k, l⟩ := h
  exact ⟨⟨a, b, c, d⟩, ⟨f, g, j, l⟩, ⟨h, i, k⟩, e⟩
theorem mw_k {LI LJ : List (Nat × Option Nat)} {st st1 : St} {D : WD} {E : PD} {R md sd : Nat} {cst : Nat → Int64} (h : MW st D E R md sd cst) (z : Same LI LJ st st1) (hI : LI.all (fun x => decide (x.1 < 130) || decide (176 < x.1)) = true) (hJ : LJ.all (fun x => decide (x.1 < 130) || decide (176 < x.1)) = true) : MW st1 D E R md sd cst := by
  have kI := z.lo 130 176 hI
  have kJ := z.loJ 130 176 hJ
  obtain ⟨m1, m2, m3⟩ := h
  refine ⟨m1.k (fun o h1 h2 => kI o h1 (by omega)), ?_, m3.k (by rw [kI 130 (by omega) (by omega)]) (fun o h1 h2 => kJ o h1 (by omega))⟩
  unfold MQ2 at m2 ⊢
  rw [kI 139 (by omega) (by omega), kI 135 (by omega) (by omega), kI 136 (by omega) (by omega), kI 137 (by omega) (by omega), kI 138 (by omega) (by omega), kI 153 (by omega) (by omega), kI 154 (by omega) (by omega)]
  exact m2
theorem cw_k {LI LJ : List (Nat × Option Nat)} {st st1 : St} {D : WD} {E : PD} {R md sd : Nat} {cst : Nat → Int64} (h : CW st D E R md sd cst) (z : Same LI LJ st st1) (hI : LI.all (fun x => decide (x.1 < 0) || decide (129 < x.1)) = true) (hJ : LJ.all (fun x => decide (x.1 < 0) || decide (129 < x.1)) = true) : CW st1 D E R md sd cst := by
  have kI := z.lo 0 129 hI
  have kJ := z.loJ 0 129 hJ
  obtain ⟨c1, c2, c3, c4⟩ := h
  exact ⟨c1.k (fun o ho => kI o (by omega) (by omega)), c2.k (fun o ho => kI o (by omega) (by omega)), c3.k (fun o h1 h2 => kI o (by omega) (by omega)) (fun o h1 h2 => kJ o (by omega) (by omega)), c4.k (kI 22 (by omega) (by omega)) (kI 23 (by omega) (by omega))⟩
theorem SPweek (n : Nat) (hn : 2 ^ 27 ≤ n) : SP_week n Inv2 := by
  intro st hI2
  obtain ⟨hI, hX⟩ := id hI2
  obtain ⟨N, R, hP, hR, hT, hF, hTo, hL, hV, hW, hLe⟩ := id hI
  obtain ⟨h8, e9, e0, hrows, hal, hfs, hsh, hst⟩ := id hP
  by_cases hN : N = 0
  · subst hN
    refine ⟨-3, st, st, ?_, ?_, hI2⟩
    · simp only [fX10_week, fX10_week_s0, e9]
      rw [if_pos (show nI 0 = 0 from rfl)]; rfl
    · simp only [fX11_week, fX11_week_s0, e0]
      rw [if_pos (show nI 0 = 0 from rfl)]; rfl
  · have told : ∃ dm : Nat → Nat, ∀ s, s < 8 → dm s ≤ 999 ∧ st.1 50 s = nI (dm s) := by
      refine ⟨fun s => (st.1 50 s).toNatClampNeg, fun s hs => ?_⟩
      obtain ⟨-, ⟨d, hd, ed⟩, -⟩ := hTo.1 s hs
      have : (st.1 50 s).toNatClampNeg = d := by rw [ed, nI_clamp (by omega)]
      simp only [this]; exact ⟨hd, ed⟩
    obtain ⟨dm, hdm⟩ := told
    obtain ⟨D, E, fs, md, sd, cst, hWk, eD, eN⟩ := wk_of hI2 hP hR hF (by omega) dm
    obtain ⟨pw, cw, mw, hw⟩ := wk_split hWk
    have ew : st.1 53 10 = nI (dWk D) := cw.2.2.1.1.1
    have ew' : st.1 130 12 = nI (dWk D) := mw.2.2.1.1
    have c0 : fX10_week n st = fX10_week_s13 n st := by
      simp only [fX10_week, fX10_week_s0, e9]
      rw [if_neg (nI_ne0 (by omega) (by omega))]
    have m0 : ∀ st1 : St, st1.1 130 0 = nI N → fX11_week n st1 = fX11_week_s10 n st1 := fun st1 h => by
      simp only [fX11_week, fX11_week_s0, h]
      rw [if_neg (nI_ne0 (by omega) (by omega))]
    by_cases h4 : dWk D = 400
    · refine ⟨-4, st, st, ?_, ?_, hI2⟩
      · rw [c0]
        simp only [fX10_week_s13, ew, h4]
        rw [if_neg (show ¬ nI 400 < 400 by decide)]; rfl
      · rw [m0 st e0]
        simp only [fX11_week_s10, ew', h4]
        rw [if_pos (show nI 400 = 400 by decide)]; rfl
    · have hw4 : dWk D < 400 := by omega
      have hd : ∀ s, s < 8 → dDm D s ≤ 999 := fun s hs => by rw [eD]; exact (hdm s hs).1
      obtain ⟨s1, a0, a1, a2⟩ := c_step n R fs md sd (by omega) D E cst (fun _ => 0) pw hw4 hd st cw (fun s hs _ => by rw [eD]; exact (hdm s (by omega)).2)
      have h1 : fX10_week n st = some (nI (sdW D), s1) := by
        rw [c0]
        simp only [fX10_week_s13, ew]
        rw [if_pos (show nI (dWk D) < 400 from nI_lt (b := 400) hw4 (by decide))]
        simp only [fX10_week_s29, a0, Option.bind_some, fX10_week_s33]
      have z1 := zX10_week n st _ h1
      have mw1 : MW s1 D E R md sd cst := mw_k mw z1 rfl rfl
      have k140 : s1.1 140 = st.1 140 := z1.rI rfl
      obtain ⟨s2, b0, b1, b2, b3⟩ := m_step n R fs md sd hn D E cst (fun _ => 0) pw hw4 hd s1 mw1 (fun s hs _ => by rw [k140, (hTo.1 s (by omega)).1, eD]; exact (hdm s (by omega)).2)
      have h2 : fX11_week n s1 = some (nI (sdW D), s2) := by
        rw [m0 s1 (by rw [z1.1 130 0 (by unfold wOK uIX10_week; simp)]; exact e0)]
        have ew1 : s1.1 130 12 = nI (dWk D) := mw1.2.2.1.1
        simp only [fX11_week_s10, ew1]
        rw [if_neg (show ¬ nI (dWk D) = 400 from fun w => h4 ((nI_eq (b := 400) (by omega) (by decide)).mp w))]
        simp only [fX11_week_s25, b0, Option.bind_some, fX11_week_s29]
      have z2 := zX11_week n s1 _ h2
      have cw2 : CW s2 (nxD D E (fun _ => 0)) E R (md + oW D E 0) (sd + sdW D) (cstW D E cst) := cw_k a1 z2 rfl rfl
      obtain ⟨fI, fX⟩ := fin_of cw2 b1 (pw_nx pw hw4 hd _) (show dWk D + 1 ≤ 400 by omega)
      have eN2 : dN (nxD D E (fun _ => 0)) = N := eN
      rw [eN2] at fI
      have k50 : s2.1 50 = s1.1 50 := z2.rI rfl
      have k51 : s2.1 51 = st.1 51 := (z2.rI rfl).trans (z1.rI rfl)
      refine ⟨nI (sdW D), s1, s2, h1, h2, ⟨N, R, PlanI_same z2 rfl rfl (PlanI_same z1 rfl rfl hP), RulesI_same z2 rfl rfl (RulesI_same z1 rfl rfl hR), TapeI_same z2 rfl rfl (TapeI_same z1 rfl rfl hT), fI, ⟨fun s hs => ?_, fun s hs => by rw [k51]; exact hTo.2 s hs⟩, LineI_same z2 rfl rfl (LineI_same z1 rfl rfl hL), LevI_same z2 rfl rfl (LevI_same z1 rfl rfl hV), WorstI_same z2 rfl rfl (WorstI_same z1 rfl rfl hW), LetI_same z2 rfl rfl (LetI_same z1 rfl rfl hLe)⟩, fX⟩
      rw [k50, a2 s hs]
      refine ⟨?_, ⟨0, by omega, rfl⟩, fun _ => rfl⟩
      by_cases q : s < N
      · exact b2 s (by omega)
      · rw [b3 s (by omega), k140, (hTo.1 s hs).1]; exact (hTo.1 s hs).2.2 (by omega)
