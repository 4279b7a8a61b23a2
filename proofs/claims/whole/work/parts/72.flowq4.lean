/-- the position, as a long -/
def posJ (N w : Nat) (sp dl : Nat → Int32) (stk : Nat → Nat) (slt : Nat → Nat → Nat) (od osh : Nat → Nat) (orH : Nat → Nat → Nat) (s : Nat) : Int64 := lN (stk s) + lN (sumN (slt s) 6) + lN (if s = 0 then 0 else od s + sumN (pend orH w (dl s).toNatClampNeg s) 4) - lN (owesN N sp od osh s)
section
variable {st : St} {b N R w : Nat} {kd dl : Nat → Int32} {fs md sd : Nat} {stk : Nat → Nat} {slt : Nat → Nat → Nat} {od osh snt : Nat → Nat} {orH snH : Nat → Nat → Nat}
theorem flow_uns {sp : Nat → Int32} (h : FlowN st b N w kd sp dl fs md sd stk slt od osh snt orH snH) (hw : w ≤ 400) (s dly : Nat) : (if s = 0 then 0 else od s + sumN (pend orH w dly s) 4) ≤ 4039596 := by
  split
  · omega
  · have h1 := flow_od h hw s
    have h2 := sumN_bd (f := pend orH w dly s) (B := 9999) 4 (fun i _ => flow_pend h _ _ _)
    omega
theorem c_position {sp : Nat → Int32} (h : FlowN st b N w kd sp dl fs md sd stk slt od osh snt orH snH) (hw : w ≤ 400) (hf : fs ≤ 79992) (n s : Nat) (hs : s < 8) : fX1_position n b (nI s) st = some (posJ N w sp dl stk slt od osh orH s, st) := by
  have i1 : inb (nI s) 8 = true := inb_nI (by omega) (by decide)
  have c1 : (nI s).toNatClampNeg = s := nI_clamp (by omega)
  have b1 := flow_stk h hw hf hs
  have b2 := flow_uns h hw s (dl s).toNatClampNeg
  have b3 := flow_owes h hw s
  obtain ⟨-, f7, f8, f9, f10, f11, f12, f13, -⟩ := id h
  simp only [fX1_position, fX1_position_s0, i1, c1, if_true, (f7 s hs).1, f9 s hs, f13 s hs, show st.1 (b + 4) s = nI (owesN N sp od osh s) from f10 s hs]
  rw [nI_l (by omega), nI_l (by omega), nI_l (by omega), nI_l (by omega)]
  rfl
theorem m_position (hP : PlanI st N R) (h : FlowN st b N w (st.1 2) (st.1 3) (st.1 5) fs md sd stk slt od osh snt orH snH) (n s : Nat) (hn : 10 ≤ n) (hs : s < N) : fX11_position n (nI s) st = some (posJ N w (st.1 3) (st.1 5) stk slt od osh orH s, st) := by
  obtain ⟨h8, e9, e0, hrows, hal, hfs, hsh, hst⟩ := id hP
  have hs8 : s < 8 := by omega
  have i1 : inb (nI s) 8 = true := inb_nI (by omega) (by decide)
  have c1 : (nI s).toNatClampNeg = s := nI_clamp (by omega)
  obtain ⟨-, f7, f8, f9, f10, f11, f12, f13, f14, -⟩ := id h
  simp only [fX11_position, fX11_position_s0, i1, c1, if_true, m_onWay n s st (slt s) hn hs8 (fun i hi => (f8 s i hs8 hi).2), Option.bind_some, fX11_position_s11, m_owesN hP h n s hn hs8, fX11_position_s17, hrows.1, (f7 s hs8).2]
  by_cases z : s = 0
  · subst z
    rw [((hst 0 hs).1 rfl).1, if_pos rfl]
    simp only [fX11_position_s76, posJ, if_true]
    congr 2
    rw [show lN 0 = 0 from rfl, Int64.add_zero]
  · obtain ⟨⟨k, hk1, hk3, ek⟩, p, hp, ep, -⟩ := (hst s hs).2.1 z
    rw [ek, if_neg (nI_ne0 (by omega) (by omega))]
    simp only [fX11_position_s28, i1, c1, if_true, hrows.2.1, ep, i8mul, inb_nI (show 8 * p + s < 64 by omega) (by decide), nI_clamp (show 8 * p + s < 2 ^ 31 by omega)]
    rw [f12 p s (by omega) hs8, if_neg (show ¬ s = p by omega), if_pos ⟨hs, z, ep⟩]
    have hm : ∀ d, d < 4 → st.2 144 (4 * s + d) = lN (pend orH w ((st.1 5) s).toNatClampNeg s d) := fun d hd => by rw [f14 s d hs8 hd, if_neg z]
    obtain ⟨P, eP⟩ : ∃ P, P = pend orH w ((st.1 5) s).toNatClampNeg s := ⟨_, rfl⟩
    obtain ⟨X, eX⟩ : ∃ X, X = lN (stk s) + lN (sumN (slt s) 6) - lN (owesN N (st.1 3) od osh s) + lN (od s) := ⟨_, rfl⟩
    rw [← eP] at hm
    rw [← eX]
    have hg := m_given n s st P (fun i => X + lN (sumN P i)) (fun i => by
      show X + lN (sumN P i + P i) = X + lN (sumN P i) + lN (P i)
      rw [← lN_add]
      exact (Int64.add_assoc _ _ _).symm) hs8 hm n 0 (by omega) (by omega)
    rw [show sumN P 0 = 0 from rfl, show lN 0 = 0 from rfl, Int64.add_zero, show nI 0 = 0 from rfl] at hg
    rw [hg]
    congr 2
    unfold posJ
    rw [if_neg z, ← eP, eX, ← lN_add]
    simp only [Int64.sub_eq_add_neg]
    ac_rfl
end
theorem SPplace (n : Nat) (hn : 10 ≤ n) : SP_place n Inv := by
  intro a st hI
  obtain ⟨N, R, hP, hR, hT, hF, hTo, hL, hV, hW, hLe⟩ := id hI
  obtain ⟨h8, e9, e0, hrows, hal, hfs, hsh, hst⟩ := id hP
  obtain ⟨w, fs, md, sd, stk, slt, od, osh, snt, orH, snH, hw, hfs0, hN0, hFl, hPa⟩ := id hF
  by_cases h : 0 ≤ a ∧ a < nI N
  · obtain ⟨s, hs, rfl⟩ := st_of (by omega) h
    refine ⟨posJ N w (st.1 3) (st.1 5) stk slt od osh orH s, st, st, ?_, ?_, hI⟩
    · simp only [fX10_place, fX10_place_s0, phas, Option.bind_some, e9, b1_pos h, fX10_place_s8, fX10_place_s11, c_position hFl hw (by omega) n s (by omega), fX10_place_s19, fX10_place_s25]
      rfl
    · simp only [fX11_place, fX11_place_s0, pstage n (nI s) st e0 h8, Option.bind_some, b1_pos h, fX11_place_s5, fX11_place_s8, m_position hP hFl n s hn hs, fX11_place_s13, fX11_place_s19]
      rfl
  · refine ⟨-9223372036854775808, st, st, ?_, ?_, hI⟩
    · simp only [fX10_place, fX10_place_s0, phas, Option.bind_some, e9, b1_neg h, fX10_place_s8, fX10_place_s22, fX10_place_s25, if_true]
    · simp only [fX11_place, fX11_place_s0, pstage n a st e0 h8, Option.bind_some, b1_neg h, fX11_place_s5, fX11_place_s16, fX11_place_s19, if_true]
theorem c_total (n b c : Nat) (st : St) (m : Nat → Nat) (hn : 10 ≤ n) (hb : ∀ s, s < 8 → m s < 2 ^ 31) (hm : ∀ s, s < 8 → st.1 c s = nI (m s)) : fX1_total n b c st = some (lN (sumN m 8), st) := by
  have loop : ∀ (k i : Nat), i ≤ 8 → 8 - i < k → fX1_total_L13 n b c k (lN (sumN m i)) 8 (nI i) st = some (lN (sumN m 8), st) := by
    intro k
    induction k with
    | zero => intro i _ h; omega
    | succ k ih =>
      intro i hi hk
      simp only [fX1_total_L13, fX1_total_s13]
      by_cases h : i = 8
      · subst h
        rw [if_pos (show (8 : Int32) ≤ nI 8 by decide)]; rfl
      · rw [if_neg (show ¬ (8 : Int32) ≤ nI i from nI_ge (b := 8) (by omega) (by decide))]
        simp only [fX1_total_s20]
        rw [inb_nI (show i < 8 by omega) (by decide), if_pos rfl, nI_clamp (by omega), hm i (by omega), nI_l (hb i (by omega)), lN_add, nI_1]
        exact ih (i + 1) (by omega) (by omega)
  simp only [fX1_total, fX1_total_s0]
  exact loop n 0 (by omega) (by omega)
theorem sumN_cut {f : Nat → Nat} {N : Nat} : ∀ k, N ≤ k → (∀ s, N ≤ s → s < k → f s = 0) → sumN f k = sumN f N := by
  intro k
  induction k with
  | zero => intro h _; have : N = 0 := by omega
            subst this; rfl
  | succ k ih =>
    intro h hz
    by_cases q : N = k + 1
    · rw [q]
    · rw [sumN, ih (by omega) (fun s h1 h2 => hz s h1 (by omega)), hz k (by omega) (by omega)]; rfl
theorem SPkept (n : Nat) (hn : 100 ≤ n) : SP_kept n Inv := by
  intro a st hI
  obtain ⟨N, R, hP, hR, hT, hF, hTo, hL, hV, hW, hLe⟩ := id hI
  obtain ⟨h8, e9, e0, hrows, hal, ⟨f0, hf0, ef, ef'⟩, hsh, hst⟩ := id hP
  obtain ⟨w, fs, md, sd, stk, slt, od, osh, snt, orH, snH, hw, hfs0, hN0, hFl, hPa⟩ := id hF
  obtain ⟨⟨f1, f2, f3, f4, f5, f6⟩, f7, f8, f9, f10, f11, f12, f13, f14, f15, f16, f17, f18, f19, -⟩ := id hFl
  suffices hq : ∃ r, fX10_kept n a st = some (r, st) ∧ fX11_kept n a st = some (r, st) by
    obtain ⟨r, h1, h2⟩ := hq
    exact ⟨r, st, st, h1, h2, hI⟩
  simp only [fX10_kept, fX10_kept_s0, fX11_kept, fX11_kept_s0]
  by_cases q0 : a = 0
  · exact ⟨lN md, by rw [if_pos q0]; simp only [fX10_kept_s36, f3], by rw [if_pos q0]; simp only [fX11_kept_s36, f4]⟩
  rw [if_neg q0, if_neg q0]
  by_cases q1 : a = 1
  · exact ⟨lN f0, by rw [if_pos q1]; simp only [fX10_kept_s44, ef], by rw [if_pos q1]; simp only [fX11_kept_s41, ef']⟩
  rw [if_neg q1, if_neg q1]
  by_cases q2 : a = 2
  · exact ⟨lN sd, by rw [if_pos q2]; simp only [fX10_kept_s52, f5], by rw [if_pos q2]; simp only [fX11_kept_s46, f6]⟩
  rw [if_neg q2, if_neg q2]
  by_cases q3 : a = 3
  · refine ⟨lN (sumN stk 8), ?_, ?_⟩
    · rw [if_pos q3]
      simp only [fX10_kept_s60, c_total n 53 54 st stk (by omega) (fun s hs => by have := flow_stk hFl hw (by omega) hs; omega) (fun s hs => (f7 s hs).1), Option.bind_some, fX10_kept_s74]
    · rw [if_pos q3]
      have loop : ∀ (k i : Nat), i ≤ N → N - i < k → fX11_kept_L54 n k (lN (sumN stk i)) (nI i) st = some (lN (sumN stk N), st) := by
        intro k
        induction k with
        | zero => intro i _ h; omega
        | succ k ih =>
          intro i hi hk
          simp only [fX11_kept_L54, fX11_kept_s54, e0]
          by_cases h : i = N
          · subst h
            rw [if_pos (nI_le (Nat.le_refl _) (by omega))]; rfl
          · rw [if_neg (nI_ge (by omega) (by omega))]
            simp only [fX11_kept_s63]
            rw [inb_nI (show i < 8 by omega) (by decide), if_pos rfl, nI_clamp (by omega), (f7 i (by omega)).2, lN_add, nI_1]
            exact ih (i + 1) (by omega) (by omega)
      simp only [fX11_kept_s51]
      rw [sumN_cut 8 h8 (fun s h1 h2 => (f19 s h1 h2).1)]
      exact loop n 0 (by omega) (by omega)
  rw [if_neg q3, if_neg q3]
  by_cases q4 : a = 4
  · refine ⟨lN (sumN (fun s => sumN (slt s) 6) 8), ?_, ?_⟩
    · rw [if_pos q4]
      simp only [fX10_kept_s75, c_total n 53 56 st (fun s => sumN (slt s) 6) (by omega) (fun s hs => by have := flow_stk hFl hw (by omega) hs; omega) (fun s hs => f9 s hs), Option.bind_some, fX10_kept_s89]
    · rw [if_pos q4]
      have loop : ∀ (k i : Nat), i ≤ N → N - i < k → fX11_kept_L84 n k (lN (sumN (fun s => sumN (slt s) 6) i)) (nI i) st = some (lN (sumN (fun s => sumN (slt s) 6) N), st) := by
        intro k
        induction k with
        | zero => intro i _ h; omega
        | succ k ih =>
          intro i hi hk
          simp only [fX11_kept_L84, fX11_kept_s84, e0]
          by_cases h : i = N
          · subst h
            rw [if_pos (nI_le (Nat.le_refl _) (by omega))]; rfl
          · rw [if_neg (nI_ge (by omega) (by omega))]
            simp only [fX11_kept_s93, m_onWay n i st (slt i) (by omega) (by omega) (fun j hj => (f8 i j (by omega) hj).2), Option.bind_some, fX11_kept_s100]
            rw [lN_add, nI_1]
            exact ih (i + 1) (by omega) (by omega)
      simp only [fX11_kept_s81]
      rw [sumN_cut 8 h8 (fun s h1 h2 => by
        rw [sumN_congr (g := fun _ => 0) 6 (fun i _ => (f19 s h1 h2).2.1 i)]; simp [sumN])]
      exact loop n 0 (by omega) (by omega)
  · refine ⟨-9223372036854775808, ?_, ?_⟩
    · rw [if_neg q4]; simp only [fX10_kept_s90]
    · rw [if_neg q4]; simp only [fX11_kept_s110]
