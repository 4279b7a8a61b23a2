/-! ===== rule ===== -/
section
variable {T R n : Nat} {B Q : Nat → Int32}
theorem p_all (hn : 200 ≤ n) (hB : BOK B T) (hR : R < 12) : ∀ (e o : Nat), o + e = 6 → Par n T R B Q (FSum n (8 - o) (nI o)) o (3 * o) (fun S => rkL S = 0) (fun x => 1 ≤ rk x) Nop := by
  intro e
  induction e with
  | zero =>
    intro o ho
    have h6 : o = 6 := by omega
    subst h6
    exact p_Sum (FSum n 1) hn hB hR (by omega) (p_Product (FSum n 1) hn hB hR (by omega) (p_atom (FSum n 1) hn hB hR (by omega) (fun h => absurd h (by omega))))
  | succ e ih =>
    intro o ho
    have hi := ih (o + 1) (by omega)
    obtain ⟨d, hd⟩ : ∃ d, 8 - o = d + 1 := ⟨7 - o, by omega⟩
    have hd2 : 8 - (o + 1) = d := by omega
    rw [hd2] at hi
    rw [hd]
    exact p_Sum (FSum n d) hn hB hR (by omega) (p_Product (FSum n d) hn hB hR (by omega) (p_atom (FSum n d) hn hB hR (by omega) (fun _ => hi)))
end
theorem rs_end {T R n : Nat} {Q : Nat → Int32} (hn : 200 ≤ n) (hB : T ≤ 120) {r : St} {p : Nat} (h : EndR n T R Q 0 1 r p) : ∃ r1, fX11_reads_L19 n n 0 1 r = some (nI p, r1) ∧ ∀ i, i < 120 * R → r1.1 154 i = Q i := by
  obtain ⟨t, ht, h⟩ := h
  obtain ⟨r1, h1, h2⟩ := h (n - t)
  rw [show n - t + t = n by omega] at h1
  exact ⟨r1, h1, h2⟩
theorem PlanI_mono {st : St} {N R : Nat} (h : PlanI st N R) : PlanI st N (R + 1) := by
  obtain ⟨h1, h2, h3, h4, h5, h6, h7, h8⟩ := h
  refine ⟨h1, h2, h3, h4, h5, h6, h7, fun s hs => ?_⟩
  obtain ⟨t1, t2, t3, t4, t5, t6, t7, t8, t9⟩ := h8 s hs
  refine ⟨t1, t2, t3, t4, t5, t6, t7, t8, ?_⟩
  rcases t9 with t9 | ⟨r, hr, e⟩
  · exact Or.inl t9
  · exact Or.inr ⟨r, by omega, e⟩
theorem SPrule (n : Nat) (hn : 200 ≤ n) : SP_rule n Inv := by
  intro st hI
  obtain ⟨N, R, hP, hRu, hT, hF, hTo, hL, hV, hW, hLe⟩ := id hI
  obtain ⟨hR12, eR, eR', hru⟩ := id hRu
  obtain ⟨T, hT120, eT, eT', hby⟩ := id hT
  by_cases hR : R = 12
  · subst hR
    refine ⟨-4, st, st, ?_, ?_, hI⟩
    · simp only [fX10_rule, fX10_rule_s0, eR, if_neg (show ¬ nI 12 < 12 by decide), fX10_rule_s12]
    · simp only [fX11_rule, fX11_rule_s0, eR', if_pos (show nI 12 = 12 by decide), fX11_rule_s9]
  · have hRl : R < 12 := by omega
    have hB : BOK (st.1 16) T := ⟨hT120, fun j hj => (hby j hj).2⟩
    -- the class's start
    obtain ⟨c0, ec0⟩ : ∃ c0, c0 = setI (setI st 15 3 0) 15 4 0 := ⟨_, rfl⟩
    have hS : CS T (st.1 16) c0 0 [] := by
      rw [ec0]
      refine ⟨⟨by rw [sI_k (by decide), sI_k (by decide)]; exact eT, by rw [sI_k (by decide), sI_at]; rfl, fun j hj => by rw [sI_o (by decide), sI_o (by decide)]⟩, by rw [sI_at]; rfl, fun i hi => absurd hi (by simp)⟩
    obtain ⟨f1, c1, g0, g1⟩ := p_all (n := n) (Q := st.1 154) hn hB hRl 6 0 (by omega) 0 [] c0 (by omega) (by simp) hS
    have g0' : fX9_rs n 0 c0 = some (f1, c1) := g0
    have e9 : fX9_read n st = fX9_read_s15 n f1 c1 := by
      simp only [fX9_read, fX9_read_s0, fX9_read_s5, fX9_read_s10]
      rw [← ec0, g0']; rfl
    have cl0 : fX10_rule n st = fX10_rule_s15 n st := by
      simp only [fX10_rule, fX10_rule_s0, eR, if_pos (show nI R < 12 from nI_lt (b := 12) hRl (by decide))]
    -- the reference's start, over any state that the class leaves
    have ref0 : ∀ st1 : St, st1.1 130 28 = nI R → fX11_rule n st1 = (fX11_reads_L19 n n 0 1 (setI (setI (setI st1 130 35 0) 130 36 0) 130 37 0)).bind (fun q => fX11_rule_s16 n q.1 q.2) := fun st1 h => by
      simp only [fX11_rule, fX11_rule_s0, h, if_neg (show ¬ nI R = 12 from fun w => hR ((nI_eq (b := 12) (by omega) (by decide)).mp w)), fX11_rule_s12, fX11_reads, fX11_reads_s0, fX11_reads_s5, fX11_reads_s10, fX11_reads_s15]
    have rs0 : ∀ st1 : St, st1.1 130 28 = nI R → st1.1 130 32 = nI T → (∀ j, j < T → st1.1 155 j = st.1 16 j) → LetI st1 → st1.1 154 = st.1 154 → RS T R (st.1 16) (st.1 154) (setI (setI (setI st1 130 35 0) 130 36 0) 130 37 0) [] 0 [] := fun st1 h1 h2 h3 h4 h5 => by
      refine ⟨⟨by rw [sI_k (by decide), sI_k (by decide), sI_k (by decide)]; exact h2, by rw [sI_k (by decide), sI_k (by decide), sI_k (by decide)]; exact h1, fun j hj => by rw [sI_o (by decide), sI_o (by decide), sI_o (by decide)]; exact h3 j hj, fun i hi => by rw [sI_o (by decide), sI_o (by decide), sI_o (by decide)]; exact h4 i hi⟩, ⟨by rw [sI_k (by decide), sI_k (by decide), sI_at]; rfl, trivial⟩, by rw [sI_k (by decide), sI_at]; rfl, by rw [sI_at]; rfl, fun i hi => absurd hi (by simp), fun i hi => by rw [sI_o (by decide), sI_o (by decide), sI_o (by decide), h5]⟩
    -- a reading that fails
    have bad : ∀ (p : Nat) (c2 : St), p ≤ 130 → fX9_read n st = some (0, c2) → c2.1 15 3 = nI p → (∀ r, RS T R (st.1 16) (st.1 154) r [] 0 [] → EndR n T R (st.1 154) 0 1 r p) → ∃ (r : Int32) (st1 st2 : St), fX10_rule n st = some (r, st1) ∧ fX11_rule n st1 = some (r, st2) ∧ Inv st2 := by
      intro p c2 hp hr hat hend
      have z9 := zX9_read n st _ hr
      have h1 : fX10_rule n st = some (-10 - nI p, setI c2 15 2 0) := by
        have a3 : (setI c2 15 2 0).1 15 3 = nI p := by rw [sI_k (by decide)]; exact hat
        rw [cl0]
        simp only [fX10_rule_s15, hr, Option.bind_some, fX10_rule_s22, fX10_rule_s31, if_true, fX10_rule_s59, a3, fX10_rule_s69]
      have zA : Same [(15, some 3), (15, some 4), (17, none), (15, some 2)] [] st (setI c2 15 2 0) := (z9.mono (by unfold uIX9_read; intro x hx; simp at hx ⊢; rcases hx with hx | hx | hx <;> simp [hx]) (fun x hx => hx)).trans (same_I (Or.inr (mm2 3 rfl)))
      have kI : ∀ o, o ≠ 15 → o ≠ 17 → (setI c2 15 2 0).1 o = st.1 o := fun o o1 o2 => zA.rI (by simp; omega)
      have e28 : (setI c2 15 2 0).1 130 28 = nI R := by rw [kI 130 (by decide) (by decide)]; exact eR'
      obtain ⟨r1, q0, q1⟩ := rs_end hn hT120 (hend _ (rs0 (setI c2 15 2 0) e28 (by rw [kI 130 (by decide) (by decide)]; exact eT') (fun j hj => by rw [kI 155 (by decide) (by decide)]; exact (hby j hj).1) (LetI_same zA rfl rfl hLe) (kI 154 (by decide) (by decide))))
      have hreads : fX11_reads n (setI c2 15 2 0) = some (nI p, r1) := by
        simp only [fX11_reads, fX11_reads_s0, fX11_reads_s5, fX11_reads_s10, fX11_reads_s15]
        exact q0
      have zr := zX11_reads n _ _ hreads
      have h2 : fX11_rule n (setI c2 15 2 0) = some (-10 - nI p, setI r1 130 32 0) := by
        rw [ref0 _ e28, q0]
        simp only [Option.bind_some, fX11_rule_s16, fX11_rule_s22, if_neg (show ¬ nI p = -1 from fun w => by have := congrArg Int32.toInt w; rw [nI_toInt (by omega)] at this; have e : (-1 : Int32).toInt = -1 := rfl; omega), fX11_rule_s27]
      have zB : Same [(130, some 35), (130, some 36), (130, some 37), (154, none), (157, none), (130, some 38), (130, some 32)] [] (setI c2 15 2 0) (setI r1 130 32 0) := (zr.mono (by unfold uIX11_reads; intro x hx; simp at hx ⊢; rcases hx with hx | hx | hx | hx | hx | hx <;> simp [hx]) (fun x hx => hx)).trans (same_I (Or.inr (mm2 6 rfl)))
      have jI : ∀ o, o ≠ 130 → o ≠ 154 → o ≠ 157 → (setI r1 130 32 0).1 o = (setI c2 15 2 0).1 o := fun o o1 o2 o3 => zB.rI (by simp; omega)
      refine ⟨_, _, _, h1, h2, N, R, PlanI_same zB rfl rfl (PlanI_same zA rfl rfl hP), ?_, ⟨0, by omega, ?_, sI_at, fun j hj => absurd hj (by omega)⟩, FlowI_same zB rfl rfl (FlowI_same zA rfl rfl hF), ToldI_same zB rfl rfl (ToldI_same zA rfl rfl hTo), LineI_same zB rfl rfl (LineI_same zA rfl rfl hL), LevI_same zB rfl rfl (LevI_same zA rfl rfl hV), WorstI_same zB rfl rfl (WorstI_same zA rfl rfl hW), LetI_same zB rfl rfl (LetI_same zA rfl rfl hLe)⟩
      · refine ⟨hR12, by rw [jI 11 (by decide) (by decide) (by decide), kI 11 (by decide) (by decide)]; exact eR, by rw [sI_k (by decide), zr.1 130 28 (by unfold wOK uIX11_reads; simp)]; exact e28, fun r hr => ?_⟩
        obtain ⟨len, l1, l2, l3, l4, l5, l6⟩ := hru r hr
        refine ⟨len, by rw [jI 13 (by decide) (by decide) (by decide), kI 13 (by decide) (by decide)]; exact l1, by rw [jI 153 (by decide) (by decide) (by decide), kI 153 (by decide) (by decide)]; exact l2, l3, l4, fun j hj => ?_, ?_⟩
        · rw [jI 12 (by decide) (by decide) (by decide), kI 12 (by decide) (by decide), sI_o (by decide), q1 _ (by omega)]
          exact l5 j hj
        · rw [jI 12 (by decide) (by decide) (by decide), kI 12 (by decide) (by decide)]; exact l6
      · rw [jI 15 (by decide) (by decide) (by decide), sI_at]; rfl
    rcases g1 with ⟨rfl, k1, L, hCS, hk1, hk1T, hLl, hdp, hfc, M, hRel, hRef⟩ | ⟨rfl, p, hp130, hCf, hNo⟩
    · have hlen := hRel.len
      rw [List.nil_append] at hCS
      by_cases q : k1 = T
      · subst q
        have hL1 : 1 ≤ L.length := by
          cases L with
          | nil => have := hdp 0 (by omega); exact absurd this (by decide)
          | cons a l => simp
        have hL120 : L.length ≤ 120 := by omega
        have hread : fX9_read n st = some (1, c1) := by
          rw [e9]
          have a3 : c1.1 15 3 = nI k1 := hCS.1.2.1
          have a2 : c1.1 15 2 = nI k1 := hCS.1.1
          simp only [fX9_read_s15, if_neg (show ¬ (1 : Int32) = 0 by decide), fX9_read_s18, a3, a2, if_true, fX9_read_s29, fX9_read_s34]
          rfl
        have z9 := zX9_read n st _ hread
        have kc : ∀ o, o ≠ 15 → o ≠ 17 → c1.1 o = st.1 o := fun o o1 o2 => z9.rI (by unfold uIX9_read; simp; omega)
        have e11 : (setI c1 15 2 0).1 11 3 = nI R := by rw [sI_o (by decide), kc 11 (by decide) (by decide)]; exact eR
        have e154 : (setI c1 15 2 0).1 15 4 = nI L.length := by rw [sI_k (by decide)]; exact hCS.2.1
        have c120 : nI R * 120 = nI (120 * R) := by rw [show (120 : Int32) = nI 120 from rfl, pk_mul, Nat.mul_comm]
        have hcp : cpok 0 (nI (120 * R)) (nI L.length) 120 1440 = true := by
          unfold cpok
          rw [nI_clamp (show 120 * R < 2 ^ 31 by omega), nI_clamp (show L.length < 2 ^ 31 by omega)]
          have n1 : ¬ (0 : Int32) < 0 := by decide
          have n2 : ¬ nI (120 * R) < 0 := nI_pos (by omega)
          have n3 : ¬ nI L.length < 0 := nI_pos (by omega)
          have n4 : (0 : Int32).toNatClampNeg = 0 := rfl
          simp only [n1, n2, n3, n4, decide_false, Bool.not_false, Bool.true_and, Bool.and_eq_true, decide_eq_true_eq]
          omega
        obtain ⟨X, eX⟩ : ∃ X, X = setI (setI (rowI (setI c1 15 2 0) 12 (va_cpy ((setI c1 15 2 0).1 17) ((setI c1 15 2 0).1 12) 0 (120 * R) L.length)) 13 R (nI L.length)) 11 3 (nI (R + 1)) := ⟨_, rfl⟩
        have h1 : fX10_rule n st = some (nI R, X) := by
          rw [cl0]
          have e11' : ∀ f : Nat → Int32, (setI (rowI (setI c1 15 2 0) 12 f) 13 R (nI L.length)).1 11 3 = nI R := fun f => by rw [sI_o (by decide), rI_o (by decide)]; exact e11
          have t0 : (0 : Int32).toNatClampNeg = 0 := rfl
          simp only [fX10_rule_s15, hread, Option.bind_some, fX10_rule_s22, fX10_rule_s31, if_neg (show ¬ (1 : Int32) = 0 by decide), fX10_rule_s35, e154, fX7_keep, fX7_keep_s0, e11, if_pos (show nI R < 12 from nI_lt (b := 12) hRl (by decide)), fX7_keep_s14, c120, hcp, if_true, t0, nI_clamp (show 120 * R < 2 ^ 31 by omega), nI_clamp (show L.length < 2 ^ 31 by omega), fX7_keep_s28, inb_nI hRl (by decide), nI_clamp (show R < 2 ^ 31 by omega), fX7_keep_s35, e11', nI_1, fX7_keep_s45, fX10_rule_s56, fX10_rule_s69]
          rw [eX]
        have zA := zX10_rule n st _ h1
        have xI : ∀ o, o ≠ 11 → o ≠ 12 → o ≠ 13 → o ≠ 15 → o ≠ 17 → X.1 o = st.1 o := fun o o1 o2 o3 o4 o5 => by rw [eX, sI_o o1, sI_o o3, rI_o o2, sI_o o4, kc o o4 o5]
        have x12 : ∀ i, i < 120 * R → X.1 12 i = st.1 12 i := fun i hi => by
          rw [eX, sI_o (by decide), sI_o (by decide), rI_at, pk_cpy_out (by omega), sI_o (by decide), kc 12 (by decide) (by decide)]
        have x12' : ∀ i, i < L.length → X.1 12 (120 * R + i) = L.getD i 0 := fun i hi => by
          rw [eX, sI_o (by decide), sI_o (by decide), rI_at, pk_cpy_in (by omega) (by omega), sI_o (by decide), show 0 + (120 * R + i - 120 * R) = i by omega]
          exact hCS.2.2 i hi
        have x13 : ∀ r, r < R → X.1 13 r = st.1 13 r := fun r hr => by rw [eX, sI_o (by decide), sI_k (by omega), rI_o (by decide), sI_o (by decide), kc 13 (by decide) (by decide)]
        have x13' : X.1 13 R = nI L.length := by rw [eX, sI_o (by decide), sI_at]
        have x11 : X.1 11 3 = nI (R + 1) := by rw [eX, sI_at]
        have e28 : X.1 130 28 = nI R := by rw [xI 130 (by decide) (by decide) (by decide) (by decide) (by decide)]; exact eR'
        -- the reference
        have hrs := rs0 X e28 (by rw [xI 130 (by decide) (by decide) (by decide) (by decide) (by decide)]; exact eT') (fun j hj => by rw [xI 155 (by decide) (by decide) (by decide) (by decide) (by decide)]; exact (hby j hj).1) (LetI_same zA rfl rfl hLe) (xI 154 (by decide) (by decide) (by decide) (by decide) (by decide))
        obtain ⟨pend, D', r1, ⟨t, ht, b0⟩, b1, b2, b3⟩ := hRef [] [] _ hrs (by simp) rfl
        rw [List.append_nil, List.nil_append] at b1
        have hML : D'.length + pend.length = M.length := by rw [← b3, List.length_append, List.length_map]
        obtain ⟨r2, u0, u1⟩ := m_unw n 1 hRl (by decide) (by decide) [] 0 (by decide) pend n r1 D' (by omega) b2 (by rw [List.append_nil]; exact b1) (by rw [List.append_nil]; omega)
        rw [b3] at u1
        have hloop : fX11_reads_L19 n n 0 1 (setI (setI (setI X 130 35 0) 130 36 0) 130 37 0) = some (-1, r2) := by
          have := b0 (n - t)
          rw [show n - t + t = n by omega] at this
          obtain ⟨u, hu⟩ : ∃ u, n - t = u + 1 := ⟨n - t - 1, by omega⟩
          rw [hu] at this
          have this' : fX11_reads_L19 n n 0 1 (setI (setI (setI X 130 35 0) 130 36 0) 130 37 0) = fX11_reads_L19 n (u + 1) (nI k1) 0 r1 := this
          rw [this']
          have u0' : fX11_unwinds n 1 r1 = some ((), r2) := u0
          have e36 : r1.1 130 36 = nI 0 := b1.2.2.1
          have e32 : r1.1 130 32 = nI k1 := b1.1.1
          simp only [fX11_reads_L19, fX11_reads_s19, if_true, fX11_reads_s23, e32, if_pos (Int32.le_refl _), fX11_reads_s126, e36, if_pos (show nI 0 ≤ 0 by decide), fX11_reads_s138, u0', Option.bind_some, fX11_reads_s143]
        have r28 : (setI r2 130 32 0).1 130 28 = nI R := by rw [sI_k (by decide)]; exact u1.1.2.1
        have r37 : (setI r2 130 32 0).1 130 37 = nI M.length := by rw [sI_k (by decide)]; exact u1.2.2.2.1
        obtain ⟨Y, eY⟩ : ∃ Y, Y = setI (setI (setI r2 130 32 0) 153 R (nI M.length)) 130 28 (nI (R + 1)) := ⟨_, rfl⟩
        have h2 : fX11_rule n X = some (nI R, Y) := by
          rw [ref0 X e28, hloop]
          have r28' : (setI (setI r2 130 32 0) 153 R (nI M.length)).1 130 28 = nI R := by rw [sI_o (by decide)]; exact r28
          have r28'' : (setI (setI (setI r2 130 32 0) 153 R (nI M.length)) 130 28 (nI (R + 1))).1 130 28 = nI (R + 1) := sI_at
          simp only [Option.bind_some, fX11_rule_s16, fX11_rule_s22, if_true, fX11_rule_s32, r28, inb_nI hRl (by decide), nI_clamp (show R < 2 ^ 31 by omega), r37, fX11_rule_s45, r28', nI_1, fX11_rule_s55, r28'', nI_pred]
          rw [eY]
        have zB := zX11_rule n X _ h2
        have yI : ∀ o, o ≠ 130 → o ≠ 153 → o ≠ 154 → o ≠ 157 → Y.1 o = X.1 o := fun o o1 o2 o3 o4 => zB.rI (by unfold uIX11_rule; simp; omega)
        have y153 : ∀ r, r < R → Y.1 153 r = st.1 153 r := fun r hr => by
          have hreads : fX11_reads n X = some (-1, r2) := by
            simp only [fX11_reads, fX11_reads_s0, fX11_reads_s5, fX11_reads_s10, fX11_reads_s15]
            exact hloop
          have zr := zX11_reads n _ _ hreads
          rw [eY, sI_o (by decide), sI_k (by omega), sI_o (by decide), zr.rI (o := 153) rfl, xI 153 (by decide) (by decide) (by decide) (by decide) (by decide)]
        have y153' : Y.1 153 R = nI M.length := by rw [eY, sI_o (by decide), sI_at]
        have y154 : Y.1 154 = r2.1 154 := by rw [eY, sI_o (by decide), sI_o (by decide), sI_o (by decide)]
        refine ⟨nI R, X, Y, h1, h2, N, R + 1, PlanI_mono (PlanI_same zB rfl rfl (PlanI_same zA rfl rfl hP)), ⟨by omega, by rw [yI 11 (by decide) (by decide) (by decide) (by decide)]; exact x11, by rw [eY, sI_at], fun r hr => ?_⟩, ⟨0, by omega, ?_, ?_, fun j hj => absurd hj (by omega)⟩, FlowI_same zB rfl rfl (FlowI_same zA rfl rfl hF), ToldI_same zB rfl rfl (ToldI_same zA rfl rfl hTo), LineI_same zB rfl rfl (LineI_same zA rfl rfl hL), LevI_same zB rfl rfl (LevI_same zA rfl rfl hV), WorstI_same zB rfl rfl (WorstI_same zA rfl rfl hW), LetI_same zB rfl rfl (LetI_same zA rfl rfl hLe)⟩
        · rw [yI 12 (by decide) (by decide) (by decide) (by decide), yI 13 (by decide) (by decide) (by decide) (by decide), y154]
          by_cases z : r = R
          · subst z
            refine ⟨L.length, x13', by rw [y153', hlen], hL1, hL120, fun j hj => ?_, ?_⟩
            · rw [x12' j hj, u1.2.2.2.2.1 j (by omega)]
              exact hRel.at j hj
            · rw [deep_dpL _ L (fun i hi => x12' i hi)]
              exact hdp 0 (by omega)
          · obtain ⟨len, l1, l2, l3, l4, l5, l6⟩ := hru r (by omega)
            refine ⟨len, by rw [x13 r (by omega)]; exact l1, by rw [y153 r (by omega)]; exact l2, l3, l4, fun j hj => ?_, ?_⟩
            · rw [x12 _ (by omega), u1.2.2.2.2.2 _ (by omega)]
              exact l5 j hj
            · have key : ∀ m, m ≤ len → deepOf (fun j => X.1 12 (120 * r + j)) m = deepOf (fun j => st.1 12 (120 * r + j)) m := by
                intro m
                induction m with
                | zero => intro _; rfl
                | succ m ihm => intro hm; rw [deepOf, deepOf, ihm (by omega), x12 _ (by omega)]
              rw [key len (Nat.le_refl _)]; exact l6
        · rw [yI 15 (by decide) (by decide) (by decide) (by decide), eX, sI_o (by decide), sI_o (by decide), rI_o (by decide), sI_at]; rfl
        · rw [eY, sI_k (by decide), sI_o (by decide), sI_at]; rfl
      · have hread : fX9_read n st = some (0, c1) := by
          rw [e9]
          have a3 : c1.1 15 3 = nI k1 := hCS.1.2.1
          have a2 : c1.1 15 2 = nI T := hCS.1.1
          simp only [fX9_read_s15, if_neg (show ¬ (1 : Int32) = 0 by decide), fX9_read_s18, a3, a2, if_neg (show ¬ nI k1 = nI T from fun w => q ((nI_eq (by omega) (by omega)).mp w)), fX9_read_s33, fX9_read_s34]
          rfl
        refine bad k1 c1 (by omega) hread hCS.1.2.1 (fun r hr => ?_)
        obtain ⟨pend, D', r1, b0, b1, b2, b3⟩ := hRef [] [] r hr (by simp) rfl
        have hML : D'.length + pend.length = M.length := by rw [← b3, List.length_append, List.length_map]
        exact b0.en (m_stop hn hT120 (by omega) (nop_rk hfc) b2 rfl b1 (by rw [List.append_nil]; omega) (fun w => w.2.elim (by decide) (by decide)) (fun w => w.2.elim (by decide) (fun x => x.elim (by decide) (by decide))))
    · have hread : fX9_read n st = some (0, c1) := by
        rw [e9]
        simp only [fX9_read_s15, if_true, fX9_read_s33, fX9_read_s34]
        rfl
      exact bad p c1 hp130 hread hCf.1.2.1 (fun r hr => hNo [] [] r hr (by simp) rfl)
