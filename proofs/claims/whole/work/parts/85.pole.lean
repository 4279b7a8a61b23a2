/-! ===== pole, straight ===== -/
theorem mkF_small {p : Int} {q : Nat} (hp : p.natAbs ≤ 1000000000) (hq : q ≤ 1000000000) : ∃ x, mkF p q = some x ∧ x.1.natAbs ≤ p.natAbs ∧ x.2 ≤ q := by
  have hd : ((Nat.gcd p.natAbs q : Nat) : Int) ∣ p := Int.ofNat_dvd_left.mpr (Nat.gcd_dvd_left _ _)
  have h1 : (p / ((Nat.gcd p.natAbs q : Nat) : Int)).natAbs ≤ p.natAbs := by rw [natAbs_div _ _ hd]; exact Nat.div_le_self _ _
  have h2 : q / Nat.gcd p.natAbs q ≤ q := Nat.div_le_self _ _
  unfold mkF
  rw [if_pos ⟨by omega, by omega⟩]
  exact ⟨_, rfl, h1, h2⟩
/-- the numbers of the polynomial below -/
theorem below_nums {t a : Int × Nat} (vt : vF t) (va : vF a) (h : t.1.natAbs ≤ 40 ∧ t.2 ≤ 20 ∧ a.1.natAbs ≤ 40 ∧ a.2 ≤ 20) : ∃ u v x y, subF (1, 1) t = some u ∧ subF (1, 1) a = some v ∧ addF u v = some x ∧ mulF u v = some y ∧ vF u ∧ vF v ∧ vF x ∧ vF y := by
  obtain ⟨h1, h2, h3, h4⟩ := h
  have v1 : vF (1, 1) := ⟨by decide, by decide, by decide⟩
  obtain ⟨u, u1, u2, u3⟩ : ∃ u, subF (1, 1) t = some u ∧ u.1.natAbs ≤ 60 ∧ u.2 ≤ 20 := by
    obtain ⟨x, e, e1, e2⟩ := mkF_small (p := ((1, 1) : Int × Nat).1 * (t.2 : Int) - t.1 * ((((1, 1) : Int × Nat).2 : Nat) : Int)) (q := ((1, 1) : Int × Nat).2 * t.2) (by simp only [Int.one_mul, Int.natCast_one, Int.mul_one]; omega) (by simp only [Nat.one_mul]; omega)
    simp only [Int.one_mul, Int.natCast_one, Int.mul_one, Nat.one_mul] at e1 e2
    exact ⟨x, e, by omega, by omega⟩
  obtain ⟨v, w1, w2, w3⟩ : ∃ u, subF (1, 1) a = some u ∧ u.1.natAbs ≤ 60 ∧ u.2 ≤ 20 := by
    obtain ⟨x, e, e1, e2⟩ := mkF_small (p := ((1, 1) : Int × Nat).1 * (a.2 : Int) - a.1 * ((((1, 1) : Int × Nat).2 : Nat) : Int)) (q := ((1, 1) : Int × Nat).2 * a.2) (by simp only [Int.one_mul, Int.natCast_one, Int.mul_one]; omega) (by simp only [Nat.one_mul]; omega)
    simp only [Int.one_mul, Int.natCast_one, Int.mul_one, Nat.one_mul] at e1 e2
    exact ⟨x, e, by omega, by omega⟩
  have vu : vF u := (addF_v v1 vt).2.1 u u1
  have vv : vF v := (addF_v v1 va).2.1 v w1
  have m1 : u.1.natAbs * v.2 ≤ 60 * 20 := Nat.mul_le_mul u2 w3
  have m2 : v.1.natAbs * u.2 ≤ 60 * 20 := Nat.mul_le_mul w2 u3
  have m3 : u.1.natAbs * v.1.natAbs ≤ 60 * 60 := Nat.mul_le_mul u2 w2
  have m4 : u.2 * v.2 ≤ 20 * 20 := Nat.mul_le_mul u3 w3
  have k1 : (u.1 * (v.2 : Int)).natAbs = u.1.natAbs * v.2 := by rw [Int.natAbs_mul, Int.natAbs_natCast]
  have k2 : (v.1 * (u.2 : Int)).natAbs = v.1.natAbs * u.2 := by rw [Int.natAbs_mul, Int.natAbs_natCast]
  obtain ⟨x, x1, -, -⟩ := mkF_small (p := u.1 * (v.2 : Int) + v.1 * (u.2 : Int)) (q := u.2 * v.2) (by omega) (by omega)
  obtain ⟨y, y1, -, -⟩ := mkF_small (p := u.1 * v.1) (q := u.2 * v.2) (by rw [Int.natAbs_mul]; omega) (by omega)
  exact ⟨u, v, x, y, u1, w1, x1, y1, vu, vv, (addF_v vu vv).1 x x1, (addF_v vu vv).2.2 y y1⟩
def bv (x y : Int × Nat) (j : Nat) : Int × Nat := if j = 0 then (1, 1) else if j = 1 then negF x else y
theorem bv_v {x y : Int × Nat} (hx : vF x) (hy : vF y) (j : Nat) : vF (bv x y j) := by
  unfold bv
  split
  · exact ⟨by decide, by decide, by decide⟩
  · split
    · exact negF_v hx
    · exact hy
theorem c_below {n : Nat} (hn : 1000 ≤ n) {t a u v x y : Int × Nat} (h1 : subF (1, 1) t = some u) (h2 : subF (1, 1) a = some v) (h3 : addF u v = some x) (h4 : mulF u v = some y) (vx : vF x) {st : St} {B : List Nat} {L : Nat → Fq} (h : LnS st B L) (b25 : 25 ∈ B) (b26 : 26 ∈ B) (b28 : 28 ∈ B) (h25 : L 25 = some t) (h26 : L 26 = some a) (h28 : L 28 = some (1, 1)) (j : Nat) (hj : j ≤ 2) : ∃ st1 L1, fX4_below n (nI j) st = some ((), st1) ∧ LnS st1 (34 :: 33 :: B) L1 ∧ L1 34 = some (bv x y j) ∧ ∀ c, c ≠ 33 → c ≠ 34 → L1 c = L c := by
  obtain ⟨s1, e1, g1⟩ := o_dif hn h 34 28 25 b28 b25
  obtain ⟨s2, e2, g2⟩ := o_dif hn g1 33 28 26 (List.mem_cons_of_mem _ b28) (List.mem_cons_of_mem _ b26)
  have hw : fX4_below n (nI j) st = fX4_below_s30 n (nI j) s2 := by
    simp only [fX4_below, fX4_below_s0, e1, Option.bind_some, fX4_below_s15, e2]
  rw [hw]
  have x28 : L 28 = some (1, 1) := h28
  have q1 : subO (L 28) (L 25) = some u := by rw [h28, h25]; exact h1
  rw [q1] at g1 g2
  have q2 : subO (setF L 34 (some u) 28) (setF L 34 (some u) 26) = some v := by rw [setF_o (by decide), setF_o (by decide), h28, h26]; exact h2
  rw [q2] at g2
  have m1 : ∀ z, z ∈ 33 :: 34 :: B → z ∈ 34 :: 33 :: B := by
    intro z hz
    simp only [List.mem_cons] at hz ⊢
    rcases hz with hz | hz | hz
    · exact Or.inr (Or.inl hz)
    · exact Or.inl hz
    · exact Or.inr (Or.inr hz)
  have m2 : ∀ z, z ∈ 34 :: 33 :: B → z ∈ 34 :: 33 :: 34 :: B := by
    intro z hz
    simp only [List.mem_cons] at hz ⊢
    rcases hz with hz | hz | hz
    · exact Or.inl hz
    · exact Or.inr (Or.inl hz)
    · exact Or.inr (Or.inr (Or.inr hz))
  match j, hj with
  | 0, _ =>
    obtain ⟨s3, e3, g3⟩ := o_bec hn g2 34 (p := 1) (q := 1) (by decide) (by decide) (by decide)
    refine ⟨s3, _, ?_, g3.mono m2, ?_, fun c c1 c2 => ?_⟩
    · simp only [fX4_below_s30, fX4_below_s34, fX4_below_s43, fX4_below_s99]
      rw [if_pos (show nI 0 = 0 from rfl)]
      have := congrArg (fun z : Option (Unit × St) => z.bind fun q => some ((), q.2)) e3
      exact this
    · rw [setF_at]; show mkF 1 1 = some (1, 1); decide
    · rw [setF_o c2, setF_o c1, setF_o c2]
  | 1, _ =>
    obtain ⟨s3, e3, g3⟩ := o_sum hn g2 34 34 33 (List.mem_cons_of_mem _ (List.mem_cons_self ..)) (List.mem_cons_self ..)
    have q3 : addO (setF (setF L 34 (some u)) 33 (some v) 34) (setF (setF L 34 (some u)) 33 (some v) 33) = some x := by
      rw [setF_at, setF_o (by decide), setF_at]; exact h3
    rw [q3] at g3
    obtain ⟨f1, f2⟩ := g3 34 (List.mem_cons_self ..)
    rw [setF_at] at f1 f2
    have hs : Same [(34, some 2)] [(34, some 0), (34, some 1)] s3 (setJ s3 34 0 (-(s3.2 34 0))) := same_J (Or.inr (mm2 0 rfl))
    have f3 : Fr (setJ s3 34 0 (-(s3.2 34 0))) 34 (some (negF x)) := by
      refine ⟨f1.1, ?_, ?_⟩
      · rw [sJ_at, f1.2.1, lZ_neg]; rfl
      · rw [sJ_k (by decide)]; exact f1.2.2
    have g4 := LnS_set g3 hs f3 (fun z hz => by cases hz; exact negF_v vx)
    refine ⟨_, _, ?_, g4.mono (fun z hz => List.mem_cons_of_mem _ (m2 z hz)), ?_, fun c c1 c2 => ?_⟩
    · simp only [fX4_below_s30, fX4_below_s46, fX4_below_s51, e3, Option.bind_some, fX4_below_s66, fX4_below_s81, fX4_below_s99]
      rfl
    · rw [setF_at]; rfl
    · rw [setF_o c2, setF_o c2, setF_o c1, setF_o c2]
  | 2, _ =>
    obtain ⟨s3, e3, g3⟩ := o_prd hn g2 34 34 33 (List.mem_cons_of_mem _ (List.mem_cons_self ..)) (List.mem_cons_self ..)
    have q3 : mulO (setF (setF L 34 (some u)) 33 (some v) 34) (setF (setF L 34 (some u)) 33 (some v) 33) = some y := by
      rw [setF_at, setF_o (by decide), setF_at]; exact h4
    rw [q3] at g3
    refine ⟨s3, _, ?_, g3.mono m2, ?_, fun c c1 c2 => ?_⟩
    · simp only [fX4_below_s30, fX4_below_s46, fX4_below_s84, e3, Option.bind_some, fX4_below_s99]
      rfl
    · rw [setF_at]; rfl
    · rw [setF_o c2, setF_o c1, setF_o c2]
theorem m_below {n : Nat} (hn : 1000 ≤ n) {t a m u v x y : Int × Nat} (vt : vF t) (va : vF a) (h1 : subF (1, 1) t = some u) (h2 : subF (1, 1) a = some v) (h3 : addF u v = some x) (h4 : mulF u v = some y) (vu : vF u) (vv : vF v) {st : St} (hT : Tam st t a m) (h0 : st.1 130 47 = 0) (k1 : st.2 161 0 = 1) (k2 : st.2 162 0 = 1) (i : Int32) : ∃ st1, fX11_findBelow n i st = some ((), st1) ∧ Tam st1 t a m ∧ ∀ j, j ≤ 2 → st1.2 161 j = lZ (bv x y j).1 ∧ st1.2 162 j = lN (bv x y j).2 := by
  obtain ⟨t1, t2, t3, t4, t5, t6⟩ := hT
  have v1 : vF (1, 1) := ⟨by decide, by decide, by decide⟩
  obtain ⟨s1, e1, m1, b1⟩ := m_adds n hn st true h0 v1 (negF_v vt)
  rw [if_pos rfl, add_neg, h1] at m1
  obtain ⟨s2, e2, m2, b2⟩ := m_adds n hn s1 true m1.1 v1 (negF_v va)
  rw [if_pos rfl, add_neg, h2] at m2
  obtain ⟨s3, e3, m3, b3⟩ := m_adds n hn s2 true m2.1 vu vv
  rw [if_pos rfl, h3] at m3
  have b13 : Same wF wG st s3 := (b1.trans b2).trans b3
  obtain ⟨s4, es4⟩ : ∃ s4, s4 = setJ (setJ s3 161 1 (lZ (negF x).1)) 162 1 (lN x.2) := ⟨_, rfl⟩
  have m4 : s4.1 130 47 = 0 := by rw [es4]; exact m3.1
  obtain ⟨s5, e5, m5, b5⟩ := m_mul n hn s4 true m4 vu vv
  rw [if_pos rfl, h4] at m5
  obtain ⟨s6, es6⟩ : ∃ s6, s6 = setJ (setJ s5 161 2 (lZ y.1)) 162 2 (lN y.2) := ⟨_, rfl⟩
  have a1 : fX11_adds n 1 1 (-(st.2 130 40)) (st.2 130 41) st = some ((), s1) := by rw [t1, t2, lZ_neg]; exact e1
  have a2 : fX11_adds n 1 1 (-(s1.2 130 42)) (s1.2 130 43) s1 = some ((), s2) := by rw [kJ b1 (o := 130) (k := 42) (by decide), kJ b1 (o := 130) (k := 43) (by decide), t3, t4, lZ_neg]; exact e2
  have a3 : fX11_adds n (s1.2 130 45) (s1.2 130 46) (s2.2 130 45) (s2.2 130 46) s2 = some ((), s3) := by rw [m1.2.1, m1.2.2, m2.2.1, m2.2.2]; exact e3
  have a4 : setJ (setJ s3 161 1 (-(s3.2 130 45))) 162 1 ((setJ s3 161 1 (-(s3.2 130 45))).2 130 46) = s4 := by
    rw [sJ_o (by decide), m3.2.1, m3.2.2, lZ_neg, es4]; rfl
  have a5 : fX11_multiplies n (s1.2 130 45) (s1.2 130 46) (s2.2 130 45) (s2.2 130 46) s4 = some ((), s5) := by rw [m1.2.1, m1.2.2, m2.2.1, m2.2.2]; exact e5
  have a6 : setJ (setJ s5 161 2 (s5.2 130 45)) 162 2 ((setJ s5 161 2 (s5.2 130 45)).2 130 46) = s6 := by
    rw [sJ_o (by decide), m5.2.1, m5.2.2, es6]; rfl
  have r6 : ∀ o k, ¬ (o = 130 ∧ (k = 45 ∨ k = 46)) → o ≠ 161 → o ≠ 162 → s6.2 o k = st.2 o k := by
    intro o k hk q1 q2
    rw [es6, sJ_o q2, sJ_o q1, kJ b5 hk, es4, sJ_o q2, sJ_o q1]
    exact kJ b13 hk
  have j6 : s6.1 130 44 = st.1 130 44 := by
    rw [es6]
    show s5.1 130 44 = _
    rw [kI b5 (by decide), es4]
    exact kI b13 (by decide)
  refine ⟨s6, ?_, ⟨?_, ?_, ?_, ?_, ?_, t6⟩, ?_⟩
  · simp only [fX11_findBelow, fX11_findBelow_s0, a1, Option.bind_some, fX11_findBelow_s15, a2, fX11_findBelow_s41, a3, fX11_findBelow_s64, fX11_findBelow_s75]
    rw [if_pos (show inb 1 3 = true from rfl), if_pos (show inb 1 3 = true from rfl), show (1 : Int32).toNatClampNeg = 1 from rfl, a4]
    simp only [fX11_findBelow_s85, a5, Option.bind_some, fX11_findBelow_s96, fX11_findBelow_s106, fX11_findBelow_s116]
    rw [if_pos (show inb 2 3 = true from rfl), if_pos (show inb 2 3 = true from rfl), show (2 : Int32).toNatClampNeg = 2 from rfl, a6]
  · rw [r6 130 40 (by decide) (by decide) (by decide), t1]
  · rw [r6 130 41 (by decide) (by decide) (by decide), t2]
  · rw [r6 130 42 (by decide) (by decide) (by decide), t3]
  · rw [r6 130 43 (by decide) (by decide) (by decide), t4]
  · rw [j6, t5]
  · intro j hj
    match j, hj with
    | 0, _ =>
      constructor
      · rw [es6, sJ_o (by decide), sJ_k (by decide), kJ b5 (by decide), es4, sJ_o (by decide), sJ_k (by decide), kJ b13 (by decide), k1]; rfl
      · rw [es6, sJ_k (by decide), sJ_o (by decide), kJ b5 (by decide), es4, sJ_k (by decide), sJ_o (by decide), kJ b13 (by decide), k2]; rfl
    | 1, _ =>
      constructor
      · rw [es6, sJ_o (by decide), sJ_k (by decide), kJ b5 (by decide), es4, sJ_o (by decide), sJ_at]; rfl
      · rw [es6, sJ_k (by decide), sJ_o (by decide), kJ b5 (by decide), es4, sJ_at]; rfl
    | 2, _ =>
      constructor
      · rw [es6, sJ_o (by decide), sJ_at]; rfl
      · rw [es6, sJ_at]; rfl
theorem c_above {n : Nat} (hn : 1000 ≤ n) {t a m u v x y : Int × Nat} (h1 : subF (1, 1) t = some u) (h2 : subF (1, 1) a = some v) (h3 : addF u v = some x) (h4 : mulF u v = some y) (vx : vF x) (k : Nat) (hk : k ≤ 2) : ∀ (j w : Nat) (st : St) (L : Nat → Fq), w ≤ k + 1 → k + 1 - w < j → LnS st [25, 26, 27, 28, 30, 31, 35] L → RunL t a m L w → L 35 = sumF t a m (fun i o => mulF o (bv x y (k - i))) w → ∃ st1, fX4_above_L6 n j (nI k) (nI w) st = some ((), st1) ∧ Fr st1 35 (sumF t a m (fun i o => mulF o (bv x y (k - i))) (k + 1)) := by
  intro j
  induction j with
  | zero => intro w st L _ h; omega
  | succ j ih =>
    intro w st L hw hj hL hR h35
    simp only [fX4_above_L6, fX4_above_s6]
    by_cases q : w = k + 1
    · subst q
      rw [if_pos (nI_lt (by omega) (by omega))]
      exact ⟨st, rfl, by rw [← h35]; exact (hL 35 (by decide)).1⟩
    · rw [if_neg (nI_nlt (by omega) (by omega))]
      obtain ⟨s1, e1, l1⟩ := c_pass hn hL w (by omega)
      obtain ⟨g1, g2⟩ := RunL_step hR
      obtain ⟨s2, L2, e2, l2, b2, c2⟩ := c_below hn h1 h2 h3 h4 vx l1 (by decide) (by decide) (by decide) g1.1 g1.2.1 g1.2.2.2.1 (k - w) (by omega)
      obtain ⟨s3, e3, l3⟩ := o_prd hn l2 33 32 34 (by decide) (by decide)
      obtain ⟨s4, e4, l4⟩ := o_sum hn l3 35 35 33 (by decide) (by decide)
      simp only [fX4_above_s11, e1, Option.bind_some, fX4_above_s16, pk_sub (show w ≤ k by omega), e2, fX4_above_s23, e3, fX4_above_s38, e4, fX4_above_s53, nI_1]
      refine ih (w + 1) s4 _ (by omega) (by omega) (l4.mono (by decide)) ?_ ?_
      · unfold RunL
        simp (config := { decide := true }) only [setF, if_true, if_false, c2 25 (by decide) (by decide), c2 26 (by decide) (by decide), c2 27 (by decide) (by decide), c2 28 (by decide) (by decide), c2 30 (by decide) (by decide), c2 31 (by decide) (by decide)]
        exact g1
      · rw [setF_at, setF_o (by decide), setF_at, c2 32 (by decide) (by decide), c2 35 (by decide) (by decide), g2, b2, passL_keep L w 35 (by omega), h35, sumF]
        unfold addO mulO
        cases sumF t a m (fun i o => mulF o (bv x y (k - i))) w with
        | none => rfl
        | some s =>
          cases oO t a m w with
          | none => rfl
          | some o => rfl
theorem m_above {n : Nat} (hn : 1000 ≤ n) {t a m x y : Int × Nat} (vt : vF t) (va : vF a) (vm : vF m) (vx : vF x) (vy : vF y) (b : Int32) (k : Nat) (hk : k ≤ 2) : ∀ (j w : Nat) (st : St) (s : Int × Nat), w ≤ k + 1 → k + 1 - w < j → (∀ i, i < k + 1 → ∃ o, oO t a m i = some o ∧ st.2 159 i = lZ o.1 ∧ st.2 160 i = lN o.2) → (∀ i, i ≤ 2 → st.2 161 i = lZ (bv x y i).1 ∧ st.2 162 i = lN (bv x y i).2) → sumF t a m (fun i o => mulF o (bv x y (k - i))) w = some s → st.1 130 47 = 0 → ∃ st1, fX11_pole_L85 n j (nI k) b (lZ s.1) (lN s.2) (nI w) st = some (tellF (sumF t a m (fun i o => mulF o (bv x y (k - i))) (k + 1)) b, st1) ∧ ∀ i, i ≤ 2 → st1.2 161 i = lZ (bv x y i).1 ∧ st1.2 162 i = lN (bv x y i).2 := by
  intro j
  induction j with
  | zero => intro w st s _ h; omega
  | succ j ih =>
    intro w st s hw hj hO hB hs h0
    simp only [fX11_pole_L85, fX11_pole_s85]
    by_cases q : w = k + 1
    · subst q
      rw [if_pos (nI_lt (by omega) (by omega)), hs]
      simp only [fX11_pole_s168, fX11_pole_s181, fX11_pole_s185, fX11_pole_s190, fX11_pole_s192]
      rw [if_pos h0]
      refine ⟨st, ?_, hB⟩
      unfold tellF
      by_cases z : b = 0
      · rw [if_pos z]; simp only [if_pos z]
      · rw [if_neg z]; simp only [if_neg z]
    · rw [if_neg (nI_nlt (by omega) (by omega))]
      simp only [fX11_pole_s91]
      rw [if_pos h0]
      obtain ⟨o, o1, o2, o3⟩ := hO w (by omega)
      obtain ⟨p1, p2⟩ := hB (k - w) (by omega)
      have vo := oO_v vt va vm w o o1
      have vb := bv_v vx vy (k - w)
      have vs := sumF_v vt va vm (g := fun i o => mulF o (bv x y (k - i))) (fun i o ho => (addF_v ho (bv_v vx vy (k - i))).2.2) w s hs
      obtain ⟨s1, e1, m1, k1⟩ := m_mul n hn st true h0 vo vb
      rw [if_pos rfl] at m1
      have v1 : vO (mulF o (bv x y (k - w))) := (addF_v vo vb).2.2
      obtain ⟨s2, e2, m2, k2⟩ := m_adds n hn s1 (mulF o (bv x y (k - w))).isSome (MS_fl m1) vs (gd0_v v1)
      simp only [fX11_pole_s98, pk_sub (show w ≤ k by omega), inb_nI (show w < 31 by omega) (by decide), inb_nI (show k - w < 3 by omega) (by decide), nI_clamp (show w < 2 ^ 31 by omega), nI_clamp (show k - w < 2 ^ 31 by omega), if_true, o2, o3, p1, p2, e1, Option.bind_some, fX11_pole_s134, m1.2.1, m1.2.2, e2, fX11_pole_s150, m2.2.1, m2.2.2, nI_1]
      have hsum : sumF t a m (fun i o => mulF o (bv x y (k - i))) (w + 1) = (if (mulF o (bv x y (k - w))).isSome = true then addF s (gd0 (mulF o (bv x y (k - w)))) else none) := by
        rw [sumF, hs, o1]
        simp only [Option.bind_some]
        cases mulF o (bv x y (k - w)) with
        | none => rfl
        | some x => rfl
      rw [← hsum] at m2 ⊢
      have hO2 : ∀ i, i < k + 1 → ∃ o, oO t a m i = some o ∧ s2.2 159 i = lZ o.1 ∧ s2.2 160 i = lN o.2 := by
        intro i hi
        obtain ⟨x, x1, x2, x3⟩ := hO i hi
        exact ⟨x, x1, (kJ (k1.trans k2) (by omega)).trans x2, (kJ (k1.trans k2) (by omega)).trans x3⟩
      have hB2 : ∀ i, i ≤ 2 → s2.2 161 i = lZ (bv x y i).1 ∧ s2.2 162 i = lN (bv x y i).2 := fun i hi => ⟨(kJ (k1.trans k2) (by omega)).trans (hB i hi).1, (kJ (k1.trans k2) (by omega)).trans (hB i hi).2⟩
      cases e : sumF t a m (fun i o => mulF o (bv x y (k - i))) (w + 1) with
      | some s' =>
        rw [e] at m2
        exact ih (w + 1) s2 s' (by omega) (by omega) hO2 hB2 e m2.1
      | none =>
        rw [e] at m2
        have h1 : s2.1 130 47 = 1 := m2.1
        have hd := sumF_dead e (k - w)
        rw [show w + 1 + (k - w) = k + 1 by omega] at hd
        rw [hd]
        obtain ⟨j, rfl⟩ : ∃ i, j = i + 1 := ⟨j - 1, by omega⟩
        simp only [fX11_pole_L85, fX11_pole_s85, fX11_pole_s91, fX11_pole_s168, fX11_pole_s175, fX11_pole_s192]
        rw [if_neg (show ¬ s2.1 130 47 = 0 by rw [h1]; decide), if_neg (show ¬ s2.1 130 47 = 0 by rw [h1]; decide)]
        simp only [ite_self]
        exact ⟨s2, rfl, hB2⟩
theorem Ess.of2 {LI LJ : List (Nat × Option Nat)} {st st' : St} (h : Same LI LJ st st') (hI : okL rowsI fldsI LI = true) (hJ : okL rowsJ [(1, 12), (25, 0), (25, 1), (26, 0), (26, 1), (27, 0), (27, 1), (28, 0), (28, 1), (53, 11), (53, 12), (130, 11), (130, 13), (130, 14), (130, 40), (130, 41), (130, 42), (130, 43)] LJ = true) (h1 : st'.2 161 0 = st.2 161 0) (h2 : st'.2 162 0 = st.2 162 0) : Ess st st' := by
  refine ⟨⟨fun o ho => funext fun k => h.1 o k (okL_row hI ho), fun p hp => h.1 p.1 p.2 (okL_fld hI hp)⟩, ⟨fun o ho => funext fun k => h.2 o k (okL_row hJ ho), fun p hp => ?_⟩⟩
  by_cases q1 : p = (161, 0)
  · subst q1; exact h1
  by_cases q2 : p = (162, 0)
  · subst q2; exact h2
  refine h.2 p.1 p.2 (okL_fld hJ ?_)
  have e : fldsJ = [(1, 12), (25, 0), (25, 1), (26, 0), (26, 1), (27, 0), (27, 1), (28, 0), (28, 1), (53, 11), (53, 12), (130, 11), (130, 13), (130, 14), (130, 40), (130, 41), (130, 42), (130, 43)] ++ [(161, 0), (162, 0)] := rfl
  rw [e] at hp
  rcases List.mem_append.mp hp with hp | hp
  · exact hp
  · simp only [List.mem_cons, List.not_mem_nil, or_false] at hp
    exact hp.elim (fun w => absurd w q1) (fun w => absurd w q2)
theorem SPpole (n : Nat) (hn : 1000 ≤ n) : SP_pole n Inv := by
  intro z k a st hI
  obtain ⟨t, c, m, vt, va, vm, hT, ⟨L, hL, h25, h26, h27, h28⟩, hsm, k1, k2⟩ := line_both hI
  obtain ⟨u, v, x, y, h1, h2, h3, h4, vu, vv, vx, vy⟩ := below_nums vt va hsm
  suffices hq : ∃ r st1, fX10_pole n z k a st = some (r, st1) ∧ (Ess st st1 → ∃ st2, fX11_pole n z k a st1 = some (r, st2) ∧ st2.2 161 0 = 1 ∧ st2.2 162 0 = 1) by
    obtain ⟨r, st1, g1, g2⟩ := hq
    have hE := Ess.of (zX10_pole n z k a st _ g1) rfl rfl
    have hI1 := hI.ess hE
    obtain ⟨st2, g3, g4, g5⟩ := g2 hE
    exact ⟨r, st1, st2, g1, g3, hI1.ess (Ess.of2 (zX11_pole n z k a st1 _ g3) rfl rfl (g4.trans ((show st1.2 161 0 = st.2 161 0 from hE.2.2 (161, 0) (by decide)).trans k1).symm) (g5.trans ((show st1.2 162 0 = st.2 162 0 from hE.2.2 (162, 0) (by decide)).trans k2).symm))⟩
  by_cases hz : 0 ≤ z ∧ z ≤ 1
  · by_cases hk : 0 ≤ k ∧ k ≤ 2
    · obtain ⟨i, hi, rfl⟩ := nI_of2 (M := 2) (n := 2) rfl (le_of_nlt32.mpr hk.1) hk.2
      by_cases ha : 0 ≤ a ∧ a ≤ 1
      · have ec : fX10_pole n z (nI i) a st = fX10_pole_s31 n z (nI i) a st := by
          simp only [fX10_pole, fX10_pole_s0, pw, Option.bind_some, b1_pos hz, fX10_pole_s6, fX10_pole_s9, b1_pos hk, fX10_pole_s15, fX10_pole_s18, b1_pos ha, fX10_pole_s24]
          rfl
        have em : ∀ s, fX11_pole n z (nI i) a s = fX11_pole_s36 n z (nI i) a s := by
          intro s
          simp only [fX11_pole, fX11_pole_s0, pinl (lo := 0) (hi := 1) (lo' := 0) (hi' := 1) (by decide) (by decide), Option.bind_some, b1_pos hz, fX11_pole_s7, fX11_pole_s10, pinl (lo := 0) (hi := 2) (lo' := 0) (hi' := 2) (by decide) (by decide), b1_pos hk, fX11_pole_s19, fX11_pole_s22, b1_pos ha, fX11_pole_s29]
          rfl
        have mb : ∀ s, Ess st s → ∃ s2, fX11_findBelow n (nI i) (setI s 130 47 0) = some ((), s2) ∧ Tam s2 t c m ∧ ∀ j, j ≤ 2 → s2.2 161 j = lZ (bv x y j).1 ∧ s2.2 162 j = lN (bv x y j).2 := by
          intro s hE
          have hT1 := Tam_ess hE hT
          obtain ⟨t1, t2, t3, t4, t5, t6⟩ := hT1
          refine m_below hn vt va h1 h2 h3 h4 vu vv (st := setI s 130 47 0) (m := m) ⟨t1, t2, t3, t4, by rw [sI_k (by decide)]; exact t5, t6⟩ sI_at ?_ ?_ (nI i)
          · exact (show s.2 161 0 = st.2 161 0 from hE.2.2 (161, 0) (by decide)).trans k1
          · exact (show s.2 162 0 = st.2 162 0 from hE.2.2 (162, 0) (by decide)).trans k2
        by_cases q : z = 0
        · subst q
          obtain ⟨s0, L0, e0, hL0, hR0, h35⟩ := c_begin hn hL h25 h26 h27 h28
          obtain ⟨s1, e1, e2⟩ := c_above hn h1 h2 h3 h4 vx i hi n 0 s0 L0 (by omega) (by omega) hL0 hR0 h35
          refine ⟨tellF (sumF t c m (fun w o => mulF o (bv x y (i - w))) (i + 1)) a, s1, ?_, fun hE => ?_⟩
          · rw [ec]
            simp only [fX10_pole_s31, fX10_pole_s35, fX4_above, fX4_above_s0, e0, Option.bind_some, fX4_above_s4]
            rw [if_pos trivial, show (0 : Int32) = nI 0 from rfl, e1]
            simp only [Option.bind_some, fX10_pole_s43, fX10_pole_s54, fX10_pole_s58, fX10_pole_s75, c_tell n 35 a s1 e2, fX10_pole_s79]
            rfl
          · obtain ⟨s2, b1, b2, b3⟩ := mb s1 hE
            obtain ⟨s3, g1, g2, g3, g4⟩ := m_find hn vt va vm i (by omega) s2 b2
            have hB3 : ∀ j, j ≤ 2 → s3.2 161 j = lZ (bv x y j).1 ∧ s3.2 162 j = lN (bv x y j).2 := fun j hj => ⟨((g3 j).1).trans (b3 j hj).1, ((g3 j).2).trans (b3 j hj).2⟩
            rw [em]
            simp only [fX11_pole_s36, fX11_pole_s41, b1, Option.bind_some, fX11_pole_s46, fX11_pole_s71, g1, fX11_pole_s76]
            rw [if_neg (show ¬ (0 : Int32) = 1 by decide)]
            cases e : runO t c m (i + 1) with
            | none =>
              rw [e] at g4
              obtain ⟨j, rfl⟩ : ∃ j, n = j + 1 := ⟨n - 1, by omega⟩
              simp only [fX11_pole_L85, fX11_pole_s85, fX11_pole_s91, fX11_pole_s168, fX11_pole_s175, fX11_pole_s192]
              rw [if_neg (show ¬ s3.1 130 47 = 0 by rw [g4]; decide), if_neg (show ¬ s3.1 130 47 = 0 by rw [g4]; decide)]
              simp only [ite_self]
              rw [sumF_o ((oO_run t c m i).mpr e)]
              exact ⟨s3, rfl, (hB3 0 (by decide)).1, (hB3 0 (by decide)).2⟩
            | some w =>
              rw [e] at g4
              obtain ⟨s4, w1, w2⟩ := m_above hn vt va vm vx vy a i hi n 0 s3 (0, 1) (by omega) (by omega) g4.2.2 hB3 rfl g4.1
              exact ⟨s4, w1, (w2 0 (by decide)).1, (w2 0 (by decide)).2⟩
        · have q1 : z = 1 := by
            obtain ⟨j, hj, rfl⟩ := nI_of2 (M := 1) (n := 1) rfl (le_of_nlt32.mpr hz.1) hz.2
            match j, hj with
            | 0, _ => exact absurd rfl q
            | 1, _ => rfl
          subst q1
          obtain ⟨s1, L1, e1, l1, b1, -⟩ := c_below hn h1 h2 h3 h4 vx hL (by decide) (by decide) (by decide) h25 h26 h28 i hi
          have f1 := (l1 34 (List.mem_cons_self ..)).1
          rw [b1] at f1
          refine ⟨tellF (some (bv x y i)) a, s1, ?_, fun hE => ?_⟩
          · rw [ec]
            simp only [fX10_pole_s31, fX10_pole_s46, e1, Option.bind_some, fX10_pole_s54, fX10_pole_s68, fX10_pole_s75, c_tell n 34 a s1 f1, fX10_pole_s79]
            rfl
          · obtain ⟨s2, c1, c2, c3⟩ := mb s1 hE
            refine ⟨s2, ?_, (c3 0 (by decide)).1, (c3 0 (by decide)).2⟩
            rw [em]
            simp only [fX11_pole_s36, fX11_pole_s41, c1, Option.bind_some, fX11_pole_s46, fX11_pole_s51, fX11_pole_s55, fX11_pole_s64, fX11_pole_s70, inb_nI (show i < 3 by omega) (by decide), nI_clamp (show i < 2 ^ 31 by omega), if_true, (c3 i hi).1, (c3 i hi).2]
            unfold tellF
            by_cases z : a = 0
            · rw [if_pos z]; simp only [if_pos z]
            · rw [if_neg z]; simp only [if_neg z]
      · refine ⟨-9223372036854775808, st, ?_, fun _ => ⟨st, ?_, k1, k2⟩⟩
        · simp only [fX10_pole, fX10_pole_s0, pw, Option.bind_some, b1_pos hz, fX10_pole_s6, fX10_pole_s9, b1_pos hk, fX10_pole_s15, fX10_pole_s18, b1_neg ha, fX10_pole_s24, fX10_pole_s27]
          rfl
        · simp only [fX11_pole, fX11_pole_s0, pinl (lo := 0) (hi := 1) (lo' := 0) (hi' := 1) (by decide) (by decide), Option.bind_some, b1_pos hz, fX11_pole_s7, fX11_pole_s10, pinl (lo := 0) (hi := 2) (lo' := 0) (hi' := 2) (by decide) (by decide), b1_pos hk, fX11_pole_s19, fX11_pole_s22, b1_neg ha, fX11_pole_s29, fX11_pole_s32]
          rfl
    · refine ⟨-9223372036854775808, st, ?_, fun _ => ⟨st, ?_, k1, k2⟩⟩
      · simp only [fX10_pole, fX10_pole_s0, pw, Option.bind_some, b1_pos hz, fX10_pole_s6, fX10_pole_s9, b1_neg hk, fX10_pole_s15, fX10_pole_s27]
        rfl
      · simp only [fX11_pole, fX11_pole_s0, pinl (lo := 0) (hi := 1) (lo' := 0) (hi' := 1) (by decide) (by decide), Option.bind_some, b1_pos hz, fX11_pole_s7, fX11_pole_s10, pinl (lo := 0) (hi := 2) (lo' := 0) (hi' := 2) (by decide) (by decide), b1_neg hk, fX11_pole_s19, fX11_pole_s32]
        rfl
  · refine ⟨-9223372036854775808, st, ?_, fun _ => ⟨st, ?_, k1, k2⟩⟩
    · simp only [fX10_pole, fX10_pole_s0, pw, Option.bind_some, b1_neg hz, fX10_pole_s6, fX10_pole_s27]
      rfl
    · simp only [fX11_pole, fX11_pole_s0, pinl (lo := 0) (hi := 1) (lo' := 0) (hi' := 1) (by decide) (by decide), Option.bind_some, b1_neg hz, fX11_pole_s7, fX11_pole_s32]
      rfl
