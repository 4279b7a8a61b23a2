/-! the reference's week -/
theorem kJ {st st1 : St} (h : Same wF wG st st1) {o k : Nat} (hn : ¬ (o = 130 ∧ (k = 45 ∨ k = 46))) : st1.2 o k = st.2 o k := h.2 o k (fun w => by
  unfold wG at w
  rcases w with w | w
  · simp at w
  · simp only [List.mem_cons, List.not_mem_nil, or_false, Prod.mk.injEq, Option.some.injEq] at w
    exact hn (w.elim (fun q => ⟨q.1, Or.inl q.2⟩) (fun q => ⟨q.1, Or.inr q.2⟩)))
theorem kI {st st1 : St} (h : Same wF wG st st1) {o k : Nat} (hn : ¬ (o = 130 ∧ k = 47)) : st1.1 o k = st.1 o k := h.1 o k (fun w => by
  unfold wF at w
  rcases w with w | w
  · simp at w
  · simp only [List.mem_cons, List.not_mem_nil, or_false, Prod.mk.injEq, Option.some.injEq] at w
    exact hn w)
def negF (x : Int × Nat) : Int × Nat := (-x.1, x.2)
theorem negF_v {x : Int × Nat} (h : vF x) : vF (negF x) := ⟨by show (-x.1).natAbs ≤ _; rw [Int.natAbs_neg]; exact h.1, h.2⟩
theorem add_neg (x y : Int × Nat) : addF x (negF y) = subF x y := by
  unfold addF subF negF
  simp only [Int.neg_mul]
  rfl
theorem MS_fl {st : St} {X : Fq} (h : MS st X) : st.1 130 47 = if X.isSome = true then 0 else 1 := by
  have := h.1
  cases X with
  | none => exact this
  | some x => exact this
/-- the registers that the straight rule reads -/
def Tam (st : St) (t a m : Int × Nat) : Prop := st.2 130 40 = lZ t.1 ∧ st.2 130 41 = lN t.2 ∧ st.2 130 42 = lZ a.1 ∧ st.2 130 43 = lN a.2 ∧ (st.1 130 44).toInt64 = lZ m.1 ∧ m.2 = 1
def Fp (st : St) (f p : Int × Nat) : Prop := st.2 130 50 = lZ f.1 ∧ st.2 130 51 = lN f.2 ∧ st.2 130 52 = lZ p.1 ∧ st.2 130 53 = lN p.2
def sO (P : Fq) (X : Fq) : Fq := if P.isSome = true then X else none
theorem m_round {n : Nat} (hn : 1000 ≤ n) {st : St} {t a m f p : Int × Nat} (vt : vF t) (va : vF a) (vm : vF m) (vf : vF f) (vp : vF p) (hT : Tam st t a m) (hf : Fp st f p) (h0 : st.1 130 47 = 0) (K : Int32 → Int32 → St → Option (Unit × St)) (k : Int32) (w : Nat) (hw : w < 31) :
    ∃ st1, fX11_findEchoes_s39 n K k (nI w) st = K k (nI (w + 1)) st1 ∧ Tam st1 t a m ∧ (∀ j, j ≠ w → st1.2 159 j = st.2 159 j ∧ st1.2 160 j = st.2 160 j) ∧ (∀ j, st1.2 161 j = st.2 161 j ∧ st1.2 162 j = st.2 162 j) ∧ match passF t a m (dW w) f p with
      | none => st1.1 130 47 = 1
      | some r => st1.1 130 47 = 0 ∧ Fp st1 r.1 r.2.1 ∧ st1.2 159 w = lZ r.2.2.1 ∧ st1.2 160 w = lN r.2.2.2 := by
  obtain ⟨t1, t2, t3, t4, t5, t6⟩ := hT
  obtain ⟨f1, f2, f3, f4⟩ := hf
  have hd := dW_v w
  have hd1 : (dW w).2 = 1 := rfl
  -- the nine steps
  obtain ⟨s1, e1, m1, k1⟩ := m_adds n hn st true h0 hd (negF_v vf)
  rw [if_pos rfl, add_neg] at m1
  have v1 : vO (subF (dW w) f) := (addF_v hd vf).2.1
  obtain ⟨C1, hC1⟩ : ∃ C1, C1 = subF (dW w) f := ⟨_, rfl⟩
  rw [← hC1] at m1 v1
  obtain ⟨s2, e2, m2, k2⟩ := m_mul n hn s1 C1.isSome (MS_fl m1) vt (gd0_v v1)
  obtain ⟨C2, hC2⟩ : ∃ C2, C2 = (if C1.isSome = true then mulF t (gd0 C1) else none) := ⟨_, rfl⟩
  have v2 : vO C2 := by rw [hC2]; split; exact (addF_v vt (gd0_v v1)).2.2; exact vO_none
  rw [← hC2] at m2
  obtain ⟨s3, e3, m3, k3⟩ := m_adds n hn s2 C2.isSome (MS_fl m2) vf (gd0_v v2)
  obtain ⟨C3, hC3⟩ : ∃ C3, C3 = (if C2.isSome = true then addF f (gd0 C2) else none) := ⟨_, rfl⟩
  have v3 : vO C3 := by rw [hC3]; split; exact (addF_v vf (gd0_v v2)).1; exact vO_none
  rw [← hC3] at m3
  have b3 : Same wF wG st s3 := (k1.trans k2).trans k3
  obtain ⟨s4, hs4⟩ : ∃ s4, s4 = setJ (setJ s3 130 50 (lZ (gd0 C3).1)) 130 51 (lN (gd0 C3).2) := ⟨_, rfl⟩
  have m4 : MS s4 C3 := by
    rw [hs4]
    refine ⟨m3.1, ?_, ?_⟩
    · rw [sJ_k (by decide), sJ_k (by decide)]; exact m3.2.1
    · rw [sJ_k (by decide), sJ_k (by decide)]; exact m3.2.2
  obtain ⟨s5, e5, m5, k5⟩ := m_adds n hn s4 C3.isSome (MS_fl m4) vp (negF_v hd)
  obtain ⟨C4, hC4⟩ : ∃ C4, C4 = (if C3.isSome = true then addF p (negF (dW w)) else none) := ⟨_, rfl⟩
  have v4 : vO C4 := by rw [hC4]; split; exact (addF_v vp (negF_v hd)).1; exact vO_none
  rw [← hC4] at m5
  obtain ⟨s6, hs6⟩ : ∃ s6, s6 = setJ (setJ s5 130 52 (lZ (gd0 C4).1)) 130 53 (lN (gd0 C4).2) := ⟨_, rfl⟩
  have m6 : MS s6 C4 := by
    rw [hs6]
    refine ⟨m5.1, ?_, ?_⟩
    · rw [sJ_k (by decide), sJ_k (by decide)]; exact m5.2.1
    · rw [sJ_k (by decide), sJ_k (by decide)]; exact m5.2.2
  obtain ⟨s7, e7, m7, k7⟩ := m_mul n hn s6 C4.isSome (MS_fl m6) vm (gd0_v v3)
  obtain ⟨C5, hC5⟩ : ∃ C5, C5 = (if C4.isSome = true then mulF m (gd0 C3) else none) := ⟨_, rfl⟩
  have v5 : vO C5 := by rw [hC5]; split; exact (addF_v vm (gd0_v v3)).2.2; exact vO_none
  rw [← hC5] at m7
  obtain ⟨s8, e8, m8, k8⟩ := m_adds n hn s7 C5.isSome (MS_fl m7) (gd0_v v5) (negF_v (gd0_v v4))
  obtain ⟨C6, hC6⟩ : ∃ C6, C6 = (if C5.isSome = true then addF (gd0 C5) (negF (gd0 C4)) else none) := ⟨_, rfl⟩
  have v6 : vO C6 := by rw [hC6]; split; exact (addF_v (gd0_v v5) (negF_v (gd0_v v4))).1; exact vO_none
  rw [← hC6] at m8
  obtain ⟨s9, e9, m9, k9⟩ := m_mul n hn s8 C6.isSome (MS_fl m8) va (gd0_v v6)
  obtain ⟨C7, hC7⟩ : ∃ C7, C7 = (if C6.isSome = true then mulF a (gd0 C6) else none) := ⟨_, rfl⟩
  have v7 : vO C7 := by rw [hC7]; split; exact (addF_v va (gd0_v v6)).2.2; exact vO_none
  rw [← hC7] at m9
  obtain ⟨s10, e10, m10, k10⟩ := m_adds n hn s9 C7.isSome (MS_fl m9) hd (gd0_v v7)
  obtain ⟨C8, hC8⟩ : ∃ C8, C8 = (if C7.isSome = true then addF (dW w) (gd0 C7) else none) := ⟨_, rfl⟩
  have v8 : vO C8 := by rw [hC8]; split; exact (addF_v hd (gd0_v v7)).1; exact vO_none
  rw [← hC8] at m10
  have b10 : Same wF wG s6 s10 := ((k7.trans k8).trans k9).trans k10
  obtain ⟨s11, hs11⟩ : ∃ s11, s11 = setJ (setJ s10 159 w (lZ (gd0 C8).1)) 160 w (lN (gd0 C8).2) := ⟨_, rfl⟩
  have m11 : MS s11 C8 := by
    rw [hs11]
    refine ⟨m10.1, ?_, ?_⟩
    · rw [sJ_o (by decide), sJ_o (by decide)]; exact m10.2.1
    · rw [sJ_o (by decide), sJ_o (by decide)]; exact m10.2.2
  obtain ⟨s12, e12, m12, k12⟩ := m_adds n hn s11 C8.isSome (MS_fl m11) (gd0_v v4) (gd0_v v8)
  obtain ⟨C9, hC9⟩ : ∃ C9, C9 = (if C8.isSome = true then addF (gd0 C4) (gd0 C8) else none) := ⟨_, rfl⟩
  rw [← hC9] at m12
  obtain ⟨s13, hs13⟩ : ∃ s13, s13 = setJ (setJ s12 130 52 (lZ (gd0 C9).1)) 130 53 (lN (gd0 C9).2) := ⟨_, rfl⟩
  -- what is kept
  have r4 : ∀ o k, ¬ (o = 130 ∧ (k = 45 ∨ k = 46 ∨ k = 50 ∨ k = 51)) → s4.2 o k = st.2 o k := by
    intro o k hk
    rw [hs4]
    by_cases q : o = 130
    · subst q
      rw [sJ_k (by omega), sJ_k (by omega)]; exact kJ b3 (by omega)
    · rw [sJ_o q, sJ_o q]; exact kJ b3 (by omega)
  have r5 : ∀ o k, ¬ (o = 130 ∧ (k = 45 ∨ k = 46)) → s5.2 o k = s4.2 o k := fun o k hk => kJ k5 hk
  have r6 : ∀ o k, ¬ (o = 130 ∧ (k = 45 ∨ k = 46 ∨ k = 52 ∨ k = 53)) → s6.2 o k = s4.2 o k := by
    intro o k hk
    rw [hs6]
    by_cases q : o = 130
    · subst q
      rw [sJ_k (by omega), sJ_k (by omega)]; exact r5 _ _ (by omega)
    · rw [sJ_o q, sJ_o q]; exact r5 _ _ (by omega)
  have r11 : ∀ o k, ¬ (o = 130 ∧ (k = 45 ∨ k = 46)) → o ≠ 159 → o ≠ 160 → s11.2 o k = s6.2 o k := by
    intro o k hk h1 h2
    rw [hs11, sJ_o h2, sJ_o h1]; exact kJ b10 hk
  have r13 : ∀ o k, ¬ (o = 130 ∧ (k = 45 ∨ k = 46 ∨ k = 52 ∨ k = 53)) → s13.2 o k = s11.2 o k := by
    intro o k hk
    rw [hs13]
    by_cases q : o = 130
    · subst q
      rw [sJ_k (by omega), sJ_k (by omega)]; exact kJ k12 (by omega)
    · rw [sJ_o q, sJ_o q]; exact kJ k12 (by omega)
  have j6 : ∀ o k, ¬ (o = 130 ∧ k = 47) → s6.1 o k = st.1 o k := by
    intro o k hk
    rw [hs6]
    show s5.1 o k = _
    rw [kI k5 hk, hs4]
    exact kI b3 hk
  have j13 : ∀ o k, ¬ (o = 130 ∧ k = 47) → s13.1 o k = st.1 o k := by
    intro o k hk
    rw [hs13]
    show s12.1 o k = _
    rw [kI k12 hk, hs11]
    show s10.1 o k = _
    rw [kI b10 hk]
    exact j6 o k hk
  -- the walk
  have ew : fX11_findEchoes_s39 n K k (nI w) st = fX11_findEchoes_s48 n K k (nI w) (lZ (dW w).1) st := by
    simp only [fX11_findEchoes_s39, fX11_findEchoes_s43, fX11_findEchoes_s47, dW]
    by_cases q : w = 0
    · subst q; rfl
    · rw [if_neg (nI_ne0 (by omega) (by omega)), if_neg q]; rfl
  have a1 : fX11_adds n (lZ (dW w).1) 1 (-(st.2 130 50)) (st.2 130 51) st = some ((), s1) := by rw [f1, f2, lZ_neg]; exact e1
  have a2 : fX11_multiplies n (s1.2 130 40) (s1.2 130 41) (s1.2 130 45) (s1.2 130 46) s1 = some ((), s2) := by
    rw [kJ k1 (o := 130) (k := 40) (by decide), kJ k1 (o := 130) (k := 41) (by decide), t1, t2, m1.2.1, m1.2.2]; exact e2
  have b2 : Same wF wG st s2 := k1.trans k2
  have a3 : fX11_adds n (s2.2 130 50) (s2.2 130 51) (s2.2 130 45) (s2.2 130 46) s2 = some ((), s3) := by
    rw [kJ b2 (o := 130) (k := 50) (by decide), kJ b2 (o := 130) (k := 51) (by decide), f1, f2, m2.2.1, m2.2.2]; exact e3
  have a4 : setJ (setJ s3 130 50 (s3.2 130 45)) 130 51 ((setJ s3 130 50 (s3.2 130 45)).2 130 46) = s4 := by
    rw [sJ_k (by decide), m3.2.1, m3.2.2, hs4]
  have a5 : fX11_adds n (s4.2 130 52) (s4.2 130 53) (-(lZ (dW w).1)) 1 s4 = some ((), s5) := by
    rw [r4 130 52 (by decide), r4 130 53 (by decide), f3, f4, lZ_neg]; exact e5
  have a6 : setJ (setJ s5 130 52 (s5.2 130 45)) 130 53 ((setJ s5 130 52 (s5.2 130 45)).2 130 46) = s6 := by
    rw [sJ_k (by decide), m5.2.1, m5.2.2, hs6]
  have a7 : fX11_multiplies n ((s6.1 130 44).toInt64) 1 (s6.2 130 50) (s6.2 130 51) s6 = some ((), s7) := by
    rw [j6 130 44 (by decide), t5, r6 130 50 (by decide), r6 130 51 (by decide), hs4, sJ_k (by decide), sJ_at, sJ_at]
    rw [t6] at e7
    exact e7
  have a8 : fX11_adds n (s7.2 130 45) (s7.2 130 46) (-(s7.2 130 52)) (s7.2 130 53) s7 = some ((), s8) := by
    rw [m7.2.1, m7.2.2, kJ k7 (o := 130) (k := 52) (by decide), kJ k7 (o := 130) (k := 53) (by decide), hs6, sJ_k (by decide), sJ_at, sJ_at, lZ_neg]; exact e8
  have a9 : fX11_multiplies n (s8.2 130 42) (s8.2 130 43) (s8.2 130 45) (s8.2 130 46) s8 = some ((), s9) := by
    rw [m8.2.1, m8.2.2, kJ (k7.trans k8) (o := 130) (k := 42) (by decide), kJ (k7.trans k8) (o := 130) (k := 43) (by decide), r6 130 42 (by decide), r6 130 43 (by decide), r4 130 42 (by decide), r4 130 43 (by decide), t3, t4]; exact e9
  have a10 : fX11_adds n (lZ (dW w).1) 1 (s9.2 130 45) (s9.2 130 46) s9 = some ((), s10) := by
    rw [m9.2.1, m9.2.2]; exact e10
  have a11 : setJ (setJ s10 159 w (s10.2 130 45)) 160 w ((setJ s10 159 w (s10.2 130 45)).2 130 46) = s11 := by
    rw [sJ_o (by decide), m10.2.1, m10.2.2, hs11]
  have a12 : fX11_adds n (s11.2 130 52) (s11.2 130 53) (s11.2 130 45) (s11.2 130 46) s11 = some ((), s12) := by
    rw [m11.2.1, m11.2.2, r11 130 52 (by decide) (by decide) (by decide), r11 130 53 (by decide) (by decide) (by decide), hs6, sJ_k (by decide), sJ_at, sJ_at]; exact e12
  have a13 : setJ (setJ s12 130 52 (s12.2 130 45)) 130 53 ((setJ s12 130 52 (s12.2 130 45)).2 130 46) = s13 := by
    rw [sJ_k (by decide), m12.2.1, m12.2.2, hs13]
  refine ⟨s13, ?_, ?_, ?_, ?_, ?_⟩
  · rw [ew]
    simp only [fX11_findEchoes_s48, a1, Option.bind_some, fX11_findEchoes_s64, a2, fX11_findEchoes_s84, a3, fX11_findEchoes_s104, fX11_findEchoes_s112, a4, fX11_findEchoes_s120, a5, fX11_findEchoes_s135, fX11_findEchoes_s143, a6, fX11_findEchoes_s151, a7, fX11_findEchoes_s169, a8, fX11_findEchoes_s190, a9, fX11_findEchoes_s210, a10, fX11_findEchoes_s224, fX11_findEchoes_s234, inb_nI (show w < 31 by omega) (by decide), if_true, nI_clamp (show w < 2 ^ 31 by omega), a11, fX11_findEchoes_s244, a12, fX11_findEchoes_s264, fX11_findEchoes_s272, a13, fX11_findEchoes_s280, nI_1]
  · refine ⟨?_, ?_, ?_, ?_, ?_, t6⟩
    · rw [r13 130 40 (by decide), r11 130 40 (by decide) (by decide) (by decide), r6 130 40 (by decide), r4 130 40 (by decide), t1]
    · rw [r13 130 41 (by decide), r11 130 41 (by decide) (by decide) (by decide), r6 130 41 (by decide), r4 130 41 (by decide), t2]
    · rw [r13 130 42 (by decide), r11 130 42 (by decide) (by decide) (by decide), r6 130 42 (by decide), r4 130 42 (by decide), t3]
    · rw [r13 130 43 (by decide), r11 130 43 (by decide) (by decide) (by decide), r6 130 43 (by decide), r4 130 43 (by decide), t4]
    · rw [j13 130 44 (by decide), t5]
  · intro j hj
    have e159 : ∀ c, c = 159 ∨ c = 160 → s6.2 c j = st.2 c j := fun c hc => by rw [r6 c j (by omega), r4 c j (by omega)]
    constructor
    · rw [r13 159 j (by omega), hs11, sJ_o (by omega), sJ_k hj, kJ b10 (by omega), e159 159 (Or.inl rfl)]
    · rw [r13 160 j (by omega), hs11, sJ_k hj, sJ_o (by omega), kJ b10 (by omega), e159 160 (Or.inr rfl)]
  · intro j
    constructor
    · rw [r13 161 j (by omega), r11 161 j (by omega) (by omega) (by omega), r6 161 j (by omega), r4 161 j (by omega)]
    · rw [r13 162 j (by omega), r11 162 j (by omega) (by omega) (by omega), r6 162 j (by omega), r4 162 j (by omega)]
  · have x50 : s13.2 130 50 = lZ (gd0 C3).1 := by rw [r13 130 50 (by decide), r11 130 50 (by decide) (by decide) (by decide), r6 130 50 (by decide), hs4, sJ_k (by decide), sJ_at]
    have x51 : s13.2 130 51 = lN (gd0 C3).2 := by rw [r13 130 51 (by decide), r11 130 51 (by decide) (by decide) (by decide), r6 130 51 (by decide), hs4, sJ_at]
    have x52 : s13.2 130 52 = lZ (gd0 C9).1 := by rw [hs13, sJ_k (by decide), sJ_at]
    have x53 : s13.2 130 53 = lN (gd0 C9).2 := by rw [hs13, sJ_at]
    have x159 : s13.2 159 w = lZ (gd0 C8).1 := by rw [r13 159 w (by omega), hs11, sJ_o (by omega), sJ_at]
    have x160 : s13.2 160 w = lN (gd0 C8).2 := by rw [r13 160 w (by omega), hs11, sJ_at]
    have x47 : s13.1 130 47 = if C9.isSome = true then 0 else 1 := by rw [hs13]; exact MS_fl m12
    have key : passF t a m (dW w) f p = C9.bind fun p' => some (gd0 C3, p', gd0 C8) := by
      unfold passF
      rw [← hC1]
      cases C1 with
      | none =>
        simp only [Option.isSome_none, if_false, Bool.false_eq_true] at hC2
        subst hC2
        simp only [Option.isSome_none, if_false, Bool.false_eq_true] at hC3
        subst hC3
        simp only [Option.isSome_none, if_false, Bool.false_eq_true] at hC4
        subst hC4
        simp only [Option.isSome_none, if_false, Bool.false_eq_true] at hC5
        subst hC5
        simp only [Option.isSome_none, if_false, Bool.false_eq_true] at hC6
        subst hC6
        simp only [Option.isSome_none, if_false, Bool.false_eq_true] at hC7
        subst hC7
        simp only [Option.isSome_none, if_false, Bool.false_eq_true] at hC8
        subst hC8
        simp only [Option.isSome_none, if_false, Bool.false_eq_true] at hC9
        subst hC9
        rfl
      | some c1 =>
        simp only [Option.isSome_some, if_true, gd0, Option.getD_some] at hC2
        simp only [Option.bind_some]
        rw [← hC2]
        cases C2 with
        | none =>
          simp only [Option.isSome_none, if_false, Bool.false_eq_true] at hC3
          subst hC3
          simp only [Option.isSome_none, if_false, Bool.false_eq_true] at hC4
          subst hC4
          simp only [Option.isSome_none, if_false, Bool.false_eq_true] at hC5
          subst hC5
          simp only [Option.isSome_none, if_false, Bool.false_eq_true] at hC6
          subst hC6
          simp only [Option.isSome_none, if_false, Bool.false_eq_true] at hC7
          subst hC7
          simp only [Option.isSome_none, if_false, Bool.false_eq_true] at hC8
          subst hC8
          simp only [Option.isSome_none, if_false, Bool.false_eq_true] at hC9
          subst hC9
          rfl
        | some c2 =>
          simp only [Option.isSome_some, if_true, gd0, Option.getD_some] at hC3
          simp only [Option.bind_some]
          rw [← hC3]
          cases C3 with
          | none =>
            simp only [Option.isSome_none, if_false, Bool.false_eq_true] at hC4
            subst hC4
            simp only [Option.isSome_none, if_false, Bool.false_eq_true] at hC5
            subst hC5
            simp only [Option.isSome_none, if_false, Bool.false_eq_true] at hC6
            subst hC6
            simp only [Option.isSome_none, if_false, Bool.false_eq_true] at hC7
            subst hC7
            simp only [Option.isSome_none, if_false, Bool.false_eq_true] at hC8
            subst hC8
            simp only [Option.isSome_none, if_false, Bool.false_eq_true] at hC9
            subst hC9
            rfl
          | some c3 =>
            simp only [Option.isSome_some, if_true] at hC4
            rw [add_neg] at hC4
            simp only [Option.bind_some]
            rw [← hC4]
            cases C4 with
            | none =>
              simp only [Option.isSome_none, if_false, Bool.false_eq_true] at hC5
              subst hC5
              simp only [Option.isSome_none, if_false, Bool.false_eq_true] at hC6
              subst hC6
              simp only [Option.isSome_none, if_false, Bool.false_eq_true] at hC7
              subst hC7
              simp only [Option.isSome_none, if_false, Bool.false_eq_true] at hC8
              subst hC8
              simp only [Option.isSome_none, if_false, Bool.false_eq_true] at hC9
              subst hC9
              rfl
            | some c4 =>
              simp only [Option.isSome_some, if_true, gd0, Option.getD_some] at hC5
              simp only [Option.bind_some]
              rw [← hC5]
              cases C5 with
              | none =>
                simp only [Option.isSome_none, if_false, Bool.false_eq_true] at hC6
                subst hC6
                simp only [Option.isSome_none, if_false, Bool.false_eq_true] at hC7
                subst hC7
                simp only [Option.isSome_none, if_false, Bool.false_eq_true] at hC8
                subst hC8
                simp only [Option.isSome_none, if_false, Bool.false_eq_true] at hC9
                subst hC9
                rfl
              | some c5 =>
                simp only [Option.isSome_some, if_true, gd0, Option.getD_some] at hC6
                rw [add_neg] at hC6
                simp only [Option.bind_some]
                rw [← hC6]
                cases C6 with
                | none =>
                  simp only [Option.isSome_none, if_false, Bool.false_eq_true] at hC7
                  subst hC7
                  simp only [Option.isSome_none, if_false, Bool.false_eq_true] at hC8
                  subst hC8
                  simp only [Option.isSome_none, if_false, Bool.false_eq_true] at hC9
                  subst hC9
                  rfl
                | some c6 =>
                  simp only [Option.isSome_some, if_true, gd0, Option.getD_some] at hC7
                  simp only [Option.bind_some]
                  rw [← hC7]
                  cases C7 with
                  | none =>
                    simp only [Option.isSome_none, if_false, Bool.false_eq_true] at hC8
                    subst hC8
                    simp only [Option.isSome_none, if_false, Bool.false_eq_true] at hC9
                    subst hC9
                    rfl
                  | some c7 =>
                    simp only [Option.isSome_some, if_true, gd0, Option.getD_some] at hC8
                    simp only [Option.bind_some]
                    rw [← hC8]
                    cases C8 with
                    | none =>
                      simp only [Option.isSome_none, if_false, Bool.false_eq_true] at hC9
                      subst hC9
                      rfl
                    | some c8 =>
                      simp only [Option.isSome_some, if_true, gd0, Option.getD_some] at hC9
                      simp only [Option.bind_some]
                      rw [← hC9]
                      rfl
    rw [key]
    cases C9 with
    | none => exact x47
    | some c9 => exact ⟨x47, ⟨x50, x51, x52, x53⟩, x159, x160⟩
