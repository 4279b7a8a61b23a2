/-! ===== worst ===== -/
theorem mw_75 {st : St} {D : WD} {E : PD} {R md sd : Nat} {cst : Nat → Int64} {v : Int32} (h : MW st D E R md sd cst) : MW (setI st 130 75 v) D E R md sd cst := by
  obtain ⟨m1, m2, m3⟩ := h
  refine ⟨?_, m2.k (fun o h1 h2 => by rw [sI_o (by omega)]), m3.k (by rw [sI_k (by decide)]) (fun o _ _ => rfl)⟩
  unfold MP at m1 ⊢
  rw [sI_k (by decide), sI_k (by decide), sI_o (by decide), sI_o (by decide), sI_o (by decide), sI_o (by decide)]
  exact m1
theorem mw_176 {st st1 : St} {D : WD} {E : PD} {R md sd : Nat} {cst : Nat → Int64} (h : MW st D E R md sd cst) (z : Same [(176, none)] [] st st1) : MW st1 D E R md sd cst := by
  have k : ∀ o, o ≠ 176 → st1.1 o = st.1 o := fun o ho => z.rI (by simp; omega)
  have kJ : st1.2 = st.2 := by funext o; exact z.rJ rfl
  obtain ⟨m1, m2, m3⟩ := h
  refine ⟨m1.k (fun o h1 h2 => k o (by omega)), ?_, m3.k (by rw [k 130 (by decide)]) (fun o _ _ => by rw [kJ])⟩
  unfold MQ2 at m2 ⊢
  rw [k 139 (by decide), k 135 (by decide), k 136 (by decide), k 137 (by decide), k 138 (by decide), k 153 (by decide), k 154 (by decide)]
  exact m2
section
variable {D : WD} {E : PD} {R fs md sd : Nat} {cst : Nat → Int64}
theorem m_w94 (n s m lo hi what : Nat) (hn : 2 ^ 27 ≤ n) (hW : PW D E R fs md sd cst) (h1 : lo ≤ 999) (h2 : hi ≤ 999) (hw : dWk D + m ≤ 400) (hm : m ≤ 6) (hs : s < dN D) (hk3 : dKd D s = 3) (hwh : what ≤ 1) (X : St) (hX : MFl X D md sd cst) : ∀ (j row : Nat) (st : St), row ≤ 2 ^ m → 2 ^ m - row < j → MW st D E R md sd cst → Kept X st → (∀ x, x < 8 → st.1 140 x = X.1 140 x) → (row = 0 ∨ ∀ i, i < m → st.1 176 i = nI (dvR m lo hi (bR (valJ D E s m lo hi cst what) row).2 i)) → ∃ st1, fX11_worst_L94 n j (nI s) (nI what) (nI m) (nI lo) (nI hi) (bR (valJ D E s m lo hi cst what) row).1 (nI row) st = some ((bR (valJ D E s m lo hi cst what) (2 ^ m)).1, st1) ∧ MW st1 D E R md sd cst ∧ (∀ x, x < 8 → st1.1 140 x = X.1 140 x) ∧ (∀ i, i < m → st1.1 176 i = nI (dvR m lo hi (bR (valJ D E s m lo hi cst what) (2 ^ m)).2 i)) ∧ st1.1 130 75 = nI m := by
  have h64 : (2 : Nat) ^ m ≤ 64 := by
    have : (2 : Nat) ^ m ≤ 2 ^ 6 := Nat.pow_le_pow_right (by decide) hm
    omega
  have hpos : 1 ≤ (2 : Nat) ^ m := Nat.one_le_two_pow
  intro j
  induction j with
  | zero => intro row st _ hj; omega
  | succ j ih =>
    intro row st hr hj hM hK h140 h176
    simp only [fX11_worst_L94, fX11_worst_s94, sh_ok m (by omega)]
    by_cases q : row = 2 ^ m
    · subst q
      rw [if_pos (Int32.le_refl _)]
      simp only [fX11_worst_s183, fX11_worst_s188]
      refine ⟨_, rfl, mw_75 hM, fun x hx => by rw [sI_o (by decide)]; exact h140 x hx, fun i hi => by rw [sI_o (by decide)]; exact h176.resolve_left (by omega) i hi, sI_at⟩
    · rw [if_neg (nI_ge (show row < 2 ^ m by omega) (by omega))]
      obtain ⟨s1, a0⟩ := m_tries6 n s m lo hi what row hn hW h1 h2 hw hm hs hk3 hwh n 0 st (by omega) (by omega) hM
      have a1 : fX11_tries n (nI s) (nI what) (nI m) (nI row) (nI lo) (nI hi) st = some (valJ D E s m lo hi cst what row, s1) := a0
      have z1 := zX11_tries n _ _ _ _ _ _ st _ a1
      have hK1 : Kept X s1 := hK.k (z1.rI rfl) (z1.loJ 168 175 rfl)
      obtain ⟨s2, b0, b1⟩ := m_laysF n hn X s1 hK1
      have z2 := zX11_lays n s1 _ b0
      have hK2 : Kept X s2 := hK1.k (z2.rI rfl) (z2.loJ 168 175 rfl)
      have hM2 : MW s2 D E R md sd cst := by
        obtain ⟨m1, m2, m3⟩ := hM
        refine ⟨(m1.z z1 (z1.1 130 0 (by unfold wOK uIX11_tries; simp)) (z1.1 130 10 (by unfold wOK uIX11_tries; simp)) rfl rfl rfl rfl).z z2 (z2.1 130 0 (by unfold wOK uIX11_lays; simp)) (z2.1 130 10 (by unfold wOK uIX11_lays; simp)) rfl rfl rfl rfl, (m2.z z1 rfl rfl rfl rfl rfl rfl rfl).z z2 rfl rfl rfl rfl rfl rfl rfl, mfl_laid hX b1⟩
      have k176 : s2.1 176 = st.1 176 := (z2.rI rfl).trans (z1.rI rfl)
      have k140 : ∀ x, x < 8 → s2.1 140 x = X.1 140 x := fun x hx => (b1.2.1 x hx).1
      simp only [fX11_worst_s102, a1, Option.bind_some, fX11_worst_s115, b0, fX11_worst_s121]
      obtain ⟨v, hv, ev⟩ := val_pos hW s m lo hi what row h1 h2 hw
      have go := fun st2 => ih (row + 1) st2 (by omega) (by omega)
      rw [bR] at go
      by_cases z : valJ D E s m lo hi cst what row ≤ (bR (valJ D E s m lo hi cst what) row).1
      · have r0 : row ≠ 0 := by
          intro r0
          subst r0
          rw [ev] at z
          have z' : lN v ≤ -1 := z
          rw [Int64.le_iff_toInt_le, pk_lT (by omega)] at z'
          have e : (-1 : Int64).toInt = -1 := rfl
          omega
        simp only [if_pos z] at go ⊢
        simp only [fX11_worst_s177, nI_1]
        exact go s2 hM2 hK2 k140 (Or.inr (by rw [k176]; exact h176.resolve_left r0))
      · simp only [if_neg z] at go ⊢
        simp only [fX11_worst_s129]
        obtain ⟨s3, c0, c1, c2⟩ := m_w136 n m lo hi row (fX11_worst_L94 n j) (nI s) (nI what) (valJ D E s m lo hi cst what row) hm n 0 s2 (by omega) (by omega) (fun i hi => absurd hi (by omega))
        rw [show nI 0 = 0 from rfl] at c0
        rw [c0]
        simp only [fX11_worst_s177, nI_1]
        have kJ : s3.2 = s2.2 := by funext o; exact c1.rJ rfl
        exact go s3 (mw_176 hM2 c1) (hK2.k (c1.rI rfl) (fun o _ _ => by rw [kJ])) (fun x hx => by rw [c1.rI (o := 140) rfl]; exact k140 x hx) (Or.inr c2)
end
theorem SPworst (n : Nat) (hn : 2 ^ 27 ≤ n) : SP_worst n Inv2 := by
  intro a0 a1 a2 a3 a4 st hI2
  obtain ⟨hI, hX⟩ := id hI2
  obtain ⟨N, R, hP, hR, hT, hF, hTo, hL, hV, hW, hLe⟩ := id hI
  obtain ⟨h8, e9, e0, hrows, hal, hfs, hsh, hst⟩ := id hP
  obtain ⟨b, eb, hb'⟩ := pshop n a0 st h8 e9
  have shopM : ∀ st1 : St, st1.1 130 0 = nI N → st1.1 131 = st1.1 2 → st1.1 2 = st.1 2 → fX11_isShop n a0 st1 = some (b, st1) := by
    intro st1 h0 h1 h2
    obtain ⟨b', eb', hb2⟩ := pshopM n a0 st1 h8 h0 h1
    rw [eb']
    have : shopP st1 N a0 ↔ shopP st N a0 := by unfold shopP; rw [h2]
    rcases hb' with ⟨r1, r2⟩ | ⟨r1, r2⟩ <;> rcases hb2 with ⟨t1, t2⟩ | ⟨t1, t2⟩
    · rw [r1, t1]
    · exact absurd (this.mpr r2) t2
    · exact absurd (this.mp t2) r2
    · rw [r1, t1]
  have M0 := shopM st e0 hrows.1 rfl
  rcases hb' with ⟨rfl, hsp⟩ | ⟨rfl, hsp⟩
  · by_cases hwh : 0 ≤ a1 ∧ a1 ≤ 1
    · have c0 : fX10_worst n a0 a1 a2 a3 a4 st = fX10_worst_s24 n a0 a1 a2 a3 a4 st := by
        simp only [fX10_worst, fX10_worst_s0, eb, Option.bind_some, fX10_worst_s8, if_neg (show ¬ (1 : Int32) = 0 by decide), fX10_worst_s11, pw, b1_pos hwh, fX10_worst_s17]
      have m0 : ∀ st1 : St, fX11_isShop n a0 st1 = some (1, st1) → fX11_worst n a0 a1 a2 a3 a4 st1 = fX11_worst_s22 n a0 a1 a2 a3 a4 st1 := fun st1 h => by
        simp only [fX11_worst, fX11_worst_s0, h, Option.bind_some, fX11_worst_s5, if_neg (show ¬ (1 : Int32) = 0 by decide), fX11_worst_s8, pinl (lo := 0) (hi := 1) (lo' := 0) (hi' := 1) (by decide) (by decide), b1_pos hwh, fX11_worst_s15]
      by_cases hn1 : 1 ≤ a2 ∧ a2 ≤ 6
      · by_cases hlo : 0 ≤ a3 ∧ a3 ≤ 999
        · by_cases hhi : a3 ≤ a4 ∧ a4 ≤ 999
          · obtain ⟨s, hs, rfl⟩ := st_of (by omega) hsp.1
            obtain ⟨what, hwt, rfl⟩ := nI_of2 (M := 1) (n := 1) rfl (le_of_nlt32.mpr hwh.1) hwh.2
            obtain ⟨m, hm, rfl⟩ := nI_of2 (M := 6) (n := 6) rfl (le_of_nlt32.mpr (Int32.le_trans (by decide) hn1.1)) hn1.2
            obtain ⟨lo, hlo9, rfl⟩ := nI_of2 (M := 999) (n := 999) rfl (le_of_nlt32.mpr hlo.1) hlo.2
            obtain ⟨hi, hhi9, rfl⟩ := nI_of2 (M := 999) (n := 999) rfl (le_of_nlt32.mpr (Int32.le_trans hlo.1 hhi.1)) hhi.2
            have hm1 : 1 ≤ m := by
              have := hn1.1
              rw [Int32.le_iff_toInt_le, nI_toInt (by omega)] at this
              have e : (1 : Int32).toInt = 1 := rfl
              omega
            obtain ⟨D, E, fs, md, sd, cst, hWk, eD, eN⟩ := wk_of hI2 hP hR hF (by omega) (fun _ => 0)
            obtain ⟨pw', cw, mw, hw⟩ := wk_split hWk
            have ew : st.1 53 10 = nI (dWk D) := cw.2.2.1.1.1
            have c1 : fX10_worst n (nI s) (nI what) (nI m) (nI lo) (nI hi) st = fX10_worst_s63 n (nI s) (nI what) (nI m) (nI lo) (nI hi) st := by
              rw [c0]
              simp only [fX10_worst_s24, pw, b1_pos hn1, Option.bind_some, fX10_worst_s31, if_neg (show ¬ (1 : Int32) = 0 by decide), fX10_worst_s34, b1_pos hlo, fX10_worst_s43, fX10_worst_s46, b1_pos hhi, fX10_worst_s56]
            have m1 : ∀ st1 : St, fX11_isShop n (nI s) st1 = some (1, st1) → fX11_worst n (nI s) (nI what) (nI m) (nI lo) (nI hi) st1 = fX11_worst_s66 n (nI s) (nI what) (nI m) (nI lo) (nI hi) st1 := fun st1 h => by
              rw [m0 st1 h]
              simp only [fX11_worst_s22, pinl (lo := 1) (hi := 6) (lo' := 1) (hi' := 6) (by decide) (by decide), b1_pos hn1, Option.bind_some, fX11_worst_s31, if_neg (show ¬ (1 : Int32) = 0 by decide), fX11_worst_s34, pinl (lo := 0) (hi := 999) (lo' := 0) (hi' := 999) (by decide) (by decide), b1_pos hlo, fX11_worst_s44, fX11_worst_s47, pinl (lo := nI lo) (hi := 999) (hi' := 999) rfl (by decide), b1_pos hhi, fX11_worst_s59]
            by_cases h4 : dWk D + m ≤ 400
            · have hk3 : dKd D s = 3 := by
                have := hsp.2
                rw [nI_clamp (by omega), cw.1.2.1] at this
                exact this
              obtain ⟨s1, p0, p1, p2⟩ := c_w93 n s m lo hi what (by omega) pw' hlo9 hhi9 h4 hm (by omega) hwt n 0 st (Nat.zero_le _) (by
                have : (2 : Nat) ^ m ≤ 2 ^ 6 := Nat.pow_le_pow_right (by decide) hm
                omega) cw.1 cw.2.1 hTo.2 cw.2.2.1 (Or.inl rfl)
              obtain ⟨s2, q0, q1, q2, q3⟩ := c_w162 n m lo hi (bR (valJ D E s m lo hi cst what) (2 ^ m)).2 (bR (valJ D E s m lo hi cst what) (2 ^ m)).1 hm n 0 s1 (by omega) (by omega) (fun i hi => absurd hi (by omega))
              rw [show nI 0 = 0 from rfl] at q0
              have r1 : fX10_worst n (nI s) (nI what) (nI m) (nI lo) (nI hi) st = some ((bR (valJ D E s m lo hi cst what) (2 ^ m)).1, s2) := by
                rw [c1]
                simp only [fX10_worst_s63, ew, nI_add]
                rw [if_pos (show nI (dWk D + m) ≤ 400 from nI_le (b := 400) h4 (by decide))]
                simp only [fX10_worst_s82]
                rw [show (-1 : Int64) = (bR (valJ D E s m lo hi cst what) 0).1 from rfl, show (0 : Int32) = nI (bR (valJ D E s m lo hi cst what) 0).2 from rfl]
                rw [show nI (bR (valJ D E s m lo hi cst what) 0).2 = nI 0 from rfl] at p0 ⊢
                rw [p0]
                simp only [fX10_worst_s159]
                exact q0
              -- frames of the class
              obtain ⟨kI, kJ⟩ := sameW' p1
              have fI : ∀ o, o ≠ 0 → o ≠ 52 → o ≠ 18 → o ≠ 19 → o ≠ 20 → o ≠ 51 → (o < 64 ∨ 130 ≤ o) → s2.1 o = st.1 o := fun o o0 o5 x1 x2 x3 x4 x5 => by
                rw [q1.rI (o := o) (by simp; omega), kI o x1 x2 x3 x4 x5]
              have fJ : ∀ o, o ≠ 14 → (o < 64 ∨ 130 ≤ o) → s2.2 o = st.2 o := fun o x1 x5 => by
                rw [q1.rJ (o := o) rfl, kJ o x1 x5]
              have cw2 : CW s2 D E R md sd cst := by
                obtain ⟨t1, t2, t3, t4⟩ := cw
                exact ⟨t1.r (fI 1 (by decide) (by decide) (by decide) (by decide) (by decide) (by decide) (by decide)) (fI 2 (by decide) (by decide) (by decide) (by decide) (by decide) (by decide) (by decide)) (fI 3 (by decide) (by decide) (by decide) (by decide) (by decide) (by decide) (by decide)) (fI 4 (by decide) (by decide) (by decide) (by decide) (by decide) (by decide) (by decide)) (fI 5 (by decide) (by decide) (by decide) (by decide) (by decide) (by decide) (by decide)), t2.r (fI 10 (by decide) (by decide) (by decide) (by decide) (by decide) (by decide) (by decide)) (fI 6 (by decide) (by decide) (by decide) (by decide) (by decide) (by decide) (by decide)) (fI 7 (by decide) (by decide) (by decide) (by decide) (by decide) (by decide) (by decide)) (fI 8 (by decide) (by decide) (by decide) (by decide) (by decide) (by decide) (by decide)) (fI 9 (by decide) (by decide) (by decide) (by decide) (by decide) (by decide) (by decide)) (fI 12 (by decide) (by decide) (by decide) (by decide) (by decide) (by decide) (by decide)) (fI 11 (by decide) (by decide) (by decide) (by decide) (by decide) (by decide) (by decide)) (fI 13 (by decide) (by decide) (by decide) (by decide) (by decide) (by decide) (by decide)), t3.k (fun o g1 g2 => fI o (by omega) (by omega) (by omega) (by omega) (by omega) (by omega) (by omega)) (fun o g1 g2 => fJ o (by omega) (by omega)), t4.k (fI 22 (by decide) (by decide) (by decide) (by decide) (by decide) (by decide) (by decide)) (fI 23 (by decide) (by decide) (by decide) (by decide) (by decide) (by decide) (by decide))⟩
              have zA : Same (LIw ++ [(52, none), (0, some 15)]) LJw st s2 := by
                refine (p1.mono (fun x hx => List.mem_append.mpr (Or.inl hx)) (fun x hx => hx)).trans (q1.mono (fun x hx => List.mem_append.mpr (Or.inr hx)) (fun x hx => absurd hx List.not_mem_nil))
              have mw2 : MW s2 D E R md sd cst := mw_k mw zA rfl rfl
              -- the reference
              obtain ⟨s3, u0, u1⟩ := m_keepsF n hn s2
              have zk := zX11_keeps n s2 _ u0
              have mw3 : MW s3 D E R md sd cst := by
                obtain ⟨t1, t2, t3⟩ := mw2
                exact ⟨t1.z zk (zk.1 130 0 (by unfold wOK uIX11_keeps; simp)) (zk.1 130 10 (by unfold wOK uIX11_keeps; simp)) rfl rfl rfl rfl, t2.z zk rfl rfl rfl rfl rfl rfl rfl, t3.k (by rw [zk.rI (o := 130) rfl]) (zk.loJ 130 150 rfl)⟩
              obtain ⟨s4, v0, v1, v2, v3, v4⟩ := m_w94 n s m lo hi what hn pw' hlo9 hhi9 h4 hm (by omega) hk3 hwt s2 mw2.2.2 n 0 s3 (Nat.zero_le _) (by
                have : (2 : Nat) ^ m ≤ 2 ^ 6 := Nat.pow_le_pow_right (by decide) hm
                omega) mw3 u1 (fun x hx => by rw [zk.rI (o := 140) rfl]) (Or.inl rfl)
              have e2 : s2.1 2 = st.1 2 := fI 2 (by decide) (by decide) (by decide) (by decide) (by decide) (by decide) (by decide)
              have r2 : fX11_worst n (nI s) (nI what) (nI m) (nI lo) (nI hi) s2 = some ((bR (valJ D E s m lo hi cst what) (2 ^ m)).1, s4) := by
                have ew2 : s2.1 130 12 = nI (dWk D) := mw2.2.2.1.1
                rw [m1 s2 (shopM s2 (by rw [fI 130 (by decide) (by decide) (by decide) (by decide) (by decide) (by decide) (by decide)]; exact e0) (by rw [e2, fI 131 (by decide) (by decide) (by decide) (by decide) (by decide) (by decide) (by decide)]; exact hrows.1) e2)]
                simp only [fX11_worst_s66, ew2, nI_add]
                rw [if_pos (show nI (dWk D + m) ≤ 400 from nI_le (b := 400) h4 (by decide))]
                simp only [fX11_worst_s82, u0, Option.bind_some, fX11_worst_s86]
                exact v0
              have zB := zX11_worst n _ _ _ _ _ s2 _ r2
              obtain ⟨fI4, fX4⟩ := fin_of (cw_k cw2 zB rfl rfl) v1 pw' hw
              rw [eN] at fI4
              have k50 : s4.1 50 = st.1 50 := by rw [zB.rI (o := 50) rfl]; exact fI 50 (by decide) (by decide) (by decide) (by decide) (by decide) (by decide) (by decide)
              have k51 : s4.1 51 = s2.1 51 := zB.rI rfl
              have k52 : s4.1 52 = s2.1 52 := zB.rI rfl
              have k0 : s4.1 0 = s2.1 0 := zB.rI rfl
              refine ⟨_, s2, s4, r1, r2, ⟨N, R, PlanI_same zB rfl rfl (PlanI_same zA rfl rfl hP), RulesI_same zB rfl rfl (RulesI_same zA rfl rfl hR), TapeI_same zB rfl rfl (TapeI_same zA rfl rfl hT), fI4, ⟨fun x hx => ?_, fun x hx => ?_⟩, LineI_same zB rfl rfl (LineI_same zA rfl rfl hL), LevI_same zB rfl rfl (LevI_same zA rfl rfl hV), ⟨m, hm, by rw [k0]; exact q3, v4, fun i hi => by rw [v3 i hi, k52, q2 i hi]⟩, LetI_same zB rfl rfl (LetI_same zA rfl rfl hLe)⟩, fX4⟩
              · rw [k50, v2 x hx, fI 140 (by decide) (by decide) (by decide) (by decide) (by decide) (by decide) (by decide)]
                exact hTo.1 x hx
              · rw [k51, q1.rI (o := 51) rfl]; exact p2 x hx
            · refine ⟨-3, st, st, ?_, ?_, hI2⟩
              · rw [c1]
                simp only [fX10_worst_s63, ew, nI_add]
                rw [if_neg (show ¬ nI (dWk D + m) ≤ 400 from nI_ge (a := 400) (by omega) (by omega))]; rfl
              · rw [m1 st M0]
                have ew2 : st.1 130 12 = nI (dWk D) := mw.2.2.1.1
                simp only [fX11_worst_s66, ew2, nI_add]
                rw [if_neg (show ¬ nI (dWk D + m) ≤ 400 from nI_ge (a := 400) (by omega) (by omega))]; rfl
          · refine ⟨-2, st, st, ?_, ?_, hI2⟩
            · rw [c0]
              simp only [fX10_worst_s24, pw, b1_pos hn1, Option.bind_some, fX10_worst_s31, if_neg (show ¬ (1 : Int32) = 0 by decide), fX10_worst_s34, b1_pos hlo, fX10_worst_s43, fX10_worst_s46, b1_neg hhi, fX10_worst_s56, if_true, fX10_worst_s59]
            · rw [m0 st M0]
              simp only [fX11_worst_s22, pinl (lo := 1) (hi := 6) (lo' := 1) (hi' := 6) (by decide) (by decide), b1_pos hn1, Option.bind_some, fX11_worst_s31, if_neg (show ¬ (1 : Int32) = 0 by decide), fX11_worst_s34, pinl (lo := 0) (hi := 999) (lo' := 0) (hi' := 999) (by decide) (by decide), b1_pos hlo, fX11_worst_s44, fX11_worst_s47, pinl (lo := a3) (hi := 999) (hi' := 999) rfl (by decide), b1_neg hhi, fX11_worst_s59, if_true, fX11_worst_s62]
        · refine ⟨-2, st, st, ?_, ?_, hI2⟩
          · rw [c0]
            simp only [fX10_worst_s24, pw, b1_pos hn1, Option.bind_some, fX10_worst_s31, if_neg (show ¬ (1 : Int32) = 0 by decide), fX10_worst_s34, b1_neg hlo, fX10_worst_s43, if_true, fX10_worst_s59]
          · rw [m0 st M0]
            simp only [fX11_worst_s22, pinl (lo := 1) (hi := 6) (lo' := 1) (hi' := 6) (by decide) (by decide), b1_pos hn1, Option.bind_some, fX11_worst_s31, if_neg (show ¬ (1 : Int32) = 0 by decide), fX11_worst_s34, pinl (lo := 0) (hi := 999) (lo' := 0) (hi' := 999) (by decide) (by decide), b1_neg hlo, fX11_worst_s44, if_true, fX11_worst_s62]
      · refine ⟨-2, st, st, ?_, ?_, hI2⟩
        · rw [c0]
          simp only [fX10_worst_s24, pw, b1_neg hn1, Option.bind_some, fX10_worst_s31, if_true, fX10_worst_s59]
        · rw [m0 st M0]
          simp only [fX11_worst_s22, pinl (lo := 1) (hi := 6) (lo' := 1) (hi' := 6) (by decide) (by decide), b1_neg hn1, Option.bind_some, fX11_worst_s31, if_true, fX11_worst_s62]
    · refine ⟨-1, st, st, ?_, ?_, hI2⟩
      · simp only [fX10_worst, fX10_worst_s0, eb, Option.bind_some, fX10_worst_s8, if_neg (show ¬ (1 : Int32) = 0 by decide), fX10_worst_s11, pw, b1_neg hwh, fX10_worst_s17, if_true, fX10_worst_s20]
      · simp only [fX11_worst, fX11_worst_s0, M0, Option.bind_some, fX11_worst_s5, if_neg (show ¬ (1 : Int32) = 0 by decide), fX11_worst_s8, pinl (lo := 0) (hi := 1) (lo' := 0) (hi' := 1) (by decide) (by decide), b1_neg hwh, fX11_worst_s15, if_true, fX11_worst_s18]
  · refine ⟨-1, st, st, ?_, ?_, hI2⟩
    · simp only [fX10_worst, fX10_worst_s0, eb, Option.bind_some, fX10_worst_s8, if_true, fX10_worst_s20]
    · simp only [fX11_worst, fX11_worst_s0, M0, Option.bind_some, fX11_worst_s5, if_true, fX11_worst_s18]
