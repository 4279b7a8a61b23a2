theorem mkF_nat {p q : Nat} (hp : p ≤ 1000000000) (hq : q ≤ 1000000000) : mkF (p : Int) q = some (((p / Nat.gcd p q : Nat) : Int), q / Nat.gcd p q) := by
  unfold mkF
  rw [Int.natAbs_natCast, ← Int.natCast_ediv, Int.natAbs_natCast, if_pos]
  exact ⟨Nat.le_trans (Nat.div_le_self _ _) hp, Nat.le_trans (Nat.div_le_self _ _) hq⟩
/-- a share that was told as an int, in both -/
theorem share_both (n : Nat) (v : Int32) : ∃ b : Int32, (∀ st, fX10_isShare n v st = some (b, st)) ∧ (∀ st, fX11_isPart n v st = some (b, st)) ∧ (b = 0 ∨ (b = 1 ∧ ∃ p q, 1 ≤ q ∧ q ≤ 20 ∧ p ≤ 2 * q ∧ v / 100 = nI p ∧ v - v / 100 * 100 = nI q)) := by
  by_cases h0 : v < 0
  · refine ⟨0, fun st => ?_, fun st => ?_, Or.inl rfl⟩
    · simp only [fX10_isShare, fX10_isShare_s0, if_pos h0]; rfl
    · simp only [fX11_isPart, fX11_isPart_s0, if_pos h0]; rfl
  · obtain ⟨x, hx, rfl⟩ := nI_of h0
    have e1 : nI x / 100 = nI (x / 100) := pk_div (d := 100) hx (by decide) (by decide)
    have e2 : nI x - nI x / 100 * 100 = nI (x % 100) := pk_rem (d := 100) hx (by decide) (by decide)
    have e2' : nI x - nI (x / 100) * 100 = nI (x % 100) := by rw [← e1]; exact e2
    have e3 : (2 : Int32) * nI (x % 100) = nI (2 * (x % 100)) := by rw [show (2 : Int32) = nI 2 from rfl, pk_mul]
    by_cases h1 : 1 ≤ nI (x % 100) ∧ nI (x % 100) ≤ 20
    · have h2 : 1 ≤ x % 100 ∧ x % 100 ≤ 20 := ⟨(nI_leI (a := 1) (by decide) (by omega)).mp h1.1, (nI_leI (b := 20) (by omega) (by decide)).mp h1.2⟩
      by_cases h3 : nI (2 * (x % 100)) < nI (x / 100)
      · refine ⟨0, fun st => ?_, fun st => ?_, Or.inl rfl⟩
        · simp only [fX10_isShare, fX10_isShare_s0, if_neg h0, fX10_isShare_s4, e2, e2', pw, b1_pos h1, Option.bind_some, fX10_isShare_s14, fX10_isShare_s17, e1, e3, if_pos h3]; rfl
        · simp only [fX11_isPart, fX11_isPart_s0, if_neg h0, fX11_isPart_s4, e2, e2', pinl (lo := 1) (hi := 20) (lo' := 1) (hi' := 20) (by decide) (by decide), b1_pos h1, Option.bind_some, fX11_isPart_s16, fX11_isPart_s19, e1, e3, if_pos h3]; rfl
      · have h4 : x / 100 ≤ 2 * (x % 100) := by
          have h5 : ¬ 2 * (x % 100) < x / 100 := fun w => h3 ((nI_ltI (a := 2 * (x % 100)) (b := x / 100) (by omega) (by omega)).mpr w)
          omega
        refine ⟨1, fun st => ?_, fun st => ?_, Or.inr ⟨rfl, x / 100, x % 100, h2.1, h2.2, h4, e1, e2⟩⟩
        · simp only [fX10_isShare, fX10_isShare_s0, if_neg h0, fX10_isShare_s4, e2, e2', pw, b1_pos h1, Option.bind_some, fX10_isShare_s14, fX10_isShare_s17, e1, e3, if_neg h3]; rfl
        · simp only [fX11_isPart, fX11_isPart_s0, if_neg h0, fX11_isPart_s4, e2, e2', pinl (lo := 1) (hi := 20) (lo' := 1) (hi' := 20) (by decide) (by decide), b1_pos h1, Option.bind_some, fX11_isPart_s16, fX11_isPart_s19, e1, e3, if_neg h3]; rfl
    · refine ⟨0, fun st => ?_, fun st => ?_, Or.inl rfl⟩
      · simp only [fX10_isShare, fX10_isShare_s0, if_neg h0, fX10_isShare_s4, e2, e2', pw, b1_neg h1, Option.bind_some, fX10_isShare_s14]; rfl
      · simp only [fX11_isPart, fX11_isPart_s0, if_neg h0, fX11_isPart_s4, e2, e2', pinl (lo := 1) (hi := 20) (lo' := 1) (hi' := 20) (by decide) (by decide), b1_neg h1, Option.bind_some, fX11_isPart_s16]; rfl
theorem low_ok {p q : Nat} (h1 : 1 ≤ q) (h2 : q ≤ 20) (h3 : p ≤ 2 * q) : q / Nat.gcd p q ≤ 20 ∧ 1 ≤ q / Nat.gcd p q ∧ p / Nat.gcd p q ≤ 2 * (q / Nat.gcd p q) ∧ Nat.gcd (p / Nat.gcd p q) (q / Nat.gcd p q) = 1 := by
  have hg : 0 < Nat.gcd p q := Nat.gcd_pos_of_pos_right _ (by omega)
  refine ⟨Nat.le_trans (Nat.div_le_self _ _) h2, Nat.div_pos (Nat.le_of_dvd (by omega) (Nat.gcd_dvd_right _ _)) hg, ?_, by rw [Nat.gcd_div (Nat.gcd_dvd_left _ _) (Nat.gcd_dvd_right _ _), Nat.div_self hg]⟩
  rw [← Nat.mul_div_assoc 2 (Nat.gcd_dvd_right p q)]
  exact Nat.div_le_div_right h3
theorem SPstraight (n : Nat) (hn : 1000 ≤ n) : SP_straight n Inv := by
  intro v w z st hI
  obtain ⟨N, R, hP, hR, hT, hF, hTo, hL, hV, hW, hLe⟩ := id hI
  obtain ⟨b, b1', b2', hb⟩ := share_both n v
  obtain ⟨b', b3', b4', hb'⟩ := share_both n w
  rcases hb with rfl | ⟨rfl, p, q, q1, q2, q3, ev, ev'⟩
  · refine ⟨-2, st, st, ?_, ?_, hI⟩
    · simp only [fX10_straight, fX10_straight_s0, b1', Option.bind_some, fX10_straight_s4, fX10_straight_s24]; rfl
    · simp only [fX11_straight, fX11_straight_s0, b2', Option.bind_some, fX11_straight_s4, fX11_straight_s26]; rfl
  rcases hb' with rfl | ⟨rfl, r, s, s1, s2, s3, ew, ew'⟩
  · refine ⟨-2, st, st, ?_, ?_, hI⟩
    · simp only [fX10_straight, fX10_straight_s0, b1', Option.bind_some, fX10_straight_s4, fX10_straight_s7, b3', fX10_straight_s11, fX10_straight_s24]; rfl
    · simp only [fX11_straight, fX11_straight_s0, b2', Option.bind_some, fX11_straight_s4, fX11_straight_s7, b4', fX11_straight_s11, fX11_straight_s26]; rfl
  by_cases hz : 1 ≤ z ∧ z ≤ 8
  · obtain ⟨m, hm, rfl⟩ := nI_of2 (M := 8) (n := 8) rfl (le_of_nlt32.mpr (Int32.le_trans (by decide) hz.1)) hz.2
    have hm1 : 1 ≤ m := (nI_leI (a := 1) (by decide) (by omega)).mp hz.1
    obtain ⟨c1, e1, f1, g1⟩ := c_become n 25 hn st (p := (p : Int)) (q := q) (by omega) (by omega) (by omega)
    obtain ⟨c2, e2, f2, g2⟩ := c_become n 26 hn c1 (p := (r : Int)) (q := s) (by omega) (by omega) (by omega)
    obtain ⟨c3, e3, f3, g3⟩ := c_become n 27 hn c2 (p := (m : Int)) (q := 1) (by omega) (by omega) (by omega)
    rw [mkF_nat (by omega) (by omega)] at f1 f2 f3
    rw [Nat.gcd_one_right, Nat.div_one, Nat.div_one] at f3
    have hg : 0 < Nat.gcd p q := Nat.gcd_pos_of_pos_right _ (by omega)
    have hg2 : Nat.gcd p q ≤ q := Nat.le_of_dvd (by omega) (Nat.gcd_dvd_right _ _)
    have hh : 0 < Nat.gcd r s := Nat.gcd_pos_of_pos_right _ (by omega)
    have hh2 : Nat.gcd r s ≤ s := Nat.le_of_dvd (by omega) (Nat.gcd_dvd_right _ _)
    obtain ⟨a1, a2, a3, a4⟩ := low_ok q1 q2 q3
    obtain ⟨d1, d2, d3, d4⟩ := low_ok s1 s2 s3
    have F1 : Fr c3 25 (some (((p / Nat.gcd p q : Nat) : Int), q / Nat.gcd p q)) := Fr_keep g3 (by decide) (Fr_keep g2 (by decide) f1)
    have F2 : Fr c3 26 (some (((r / Nat.gcd r s : Nat) : Int), s / Nat.gcd r s)) := Fr_keep g3 (by decide) f2
    have hs3 : Same [(25, some 2), (26, some 2), (27, some 2), (130, some 44)] [(25, some 0), (25, some 1), (26, some 0), (26, some 1), (27, some 0), (27, some 1), (130, some 40), (130, some 41), (130, some 42), (130, some 43)] st c3 := ((g1.mono (by decide) (by decide)).trans (g2.mono (by decide) (by decide))).trans (g3.mono (by decide) (by decide))
    obtain ⟨c4, ec4⟩ : ∃ c4, c4 = setI (setJ (setJ (setJ (setJ c3 130 40 (lN (p / Nat.gcd p q))) 130 41 (lN (q / Nat.gcd p q))) 130 42 (lN (r / Nat.gcd r s))) 130 43 (lN (s / Nat.gcd r s))) 130 44 (nI m) := ⟨_, rfl⟩
    have hs4 : Same [(25, some 2), (26, some 2), (27, some 2), (130, some 44)] [(25, some 0), (25, some 1), (26, some 0), (26, some 1), (27, some 0), (27, some 1), (130, some 40), (130, some 41), (130, some 42), (130, some 43)] st c4 := by
      rw [ec4]
      exact ((((hs3.trans (same_J (Or.inr (mm2 6 rfl)))).trans (same_J (Or.inr (mm2 7 rfl)))).trans (same_J (Or.inr (mm2 8 rfl)))).trans (same_J (Or.inr (mm2 9 rfl)))).trans (same_I (Or.inr (mm2 3 rfl)))
    refine ⟨0, c3, c4, ?_, ?_, ?_⟩
    · simp only [fX10_straight, fX10_straight_s0, b1', Option.bind_some, fX10_straight_s4, fX10_straight_s7, b3', fX10_straight_s11, fX10_straight_s14, pw, b1_pos hz, fX10_straight_s21, fX10_straight_s27]
      rw [ev', ev, nI_l (by omega), nI_l (by omega), ← lZ_nat p, e1]
      simp only [Option.bind_some, fX10_straight_s47]
      rw [ew', ew, nI_l (by omega), nI_l (by omega), ← lZ_nat r, e2]
      simp only [Option.bind_some, fX10_straight_s67]
      rw [nI_l (by omega), ← lZ_nat m, show (1 : Int64) = lN 1 from rfl, e3]
      rfl
    · have x1 : ∀ c, fX11_divisor n (lN p) (lN q) c = some (lN (Nat.gcd p q), c) := by
        intro c
        have := m_divisor n hn c (z := (p : Int)) (y := (q : Int)) (by omega) (by omega)
        rwa [lZ_nat, lZ_nat, Int.natAbs_natCast, Int.natAbs_natCast] at this
      have x2 : ∀ c, fX11_divisor n (lN r) (lN s) c = some (lN (Nat.gcd r s), c) := by
        intro c
        have := m_divisor n hn c (z := (r : Int)) (y := (s : Int)) (by omega) (by omega)
        rwa [lZ_nat, lZ_nat, Int.natAbs_natCast, Int.natAbs_natCast] at this
      have g0 : ¬ lN (Nat.gcd p q) = 0 := fun h => by have := (pk_lEQ (by omega) (show 0 < 2 ^ 63 by decide)).mp h; omega
      have h0 : ¬ lN (Nat.gcd r s) = 0 := fun h => by have := (pk_lEQ (by omega) (show 0 < 2 ^ 63 by decide)).mp h; omega
      simp only [fX11_straight, fX11_straight_s0, b2', Option.bind_some, fX11_straight_s4, fX11_straight_s7, b4', fX11_straight_s11, fX11_straight_s14, pinl (lo := 1) (hi := 8) (lo' := 1) (hi' := 8) (by decide) (by decide), b1_pos hz, fX11_straight_s23, fX11_straight_s29]
      rw [ev', ev, nI_l (show p < 2 ^ 31 by omega), nI_l (show q < 2 ^ 31 by omega), x1]
      simp only [Option.bind_some, fX11_straight_s42, fX11_straight_s56, fX11_straight_s68]
      rw [ev', ev, ew', ew, nI_l (show p < 2 ^ 31 by omega), nI_l (show q < 2 ^ 31 by omega), nI_l (show r < 2 ^ 31 by omega), nI_l (show s < 2 ^ 31 by omega), x2]
      simp only [Option.bind_some, fX11_straight_s81, fX11_straight_s95, fX11_straight_s107, fX11_straight_s112]
      rw [ew', ew, nI_l (show r < 2 ^ 31 by omega), nI_l (show s < 2 ^ 31 by omega), if_neg g0, if_neg g0, if_neg h0, if_neg h0, pk_lDiv (by omega) hg (by omega), pk_lDiv (by omega) hg (by omega), pk_lDiv (by omega) hh (by omega), pk_lDiv (by omega) hh (by omega), ← ec4]
      rfl
    · refine ⟨N, R, PlanI_same hs4 rfl rfl hP, RulesI_same hs4 rfl rfl hR, TapeI_same hs4 rfl rfl hT, FlowI_same hs4 rfl rfl hF, ToldI_same hs4 rfl rfl hTo, ?_, LevI_same hs4 rfl rfl hV, WorstI_same hs4 rfl rfl hW, LetI_same hs4 rfl rfl hLe⟩
      obtain ⟨-, -, -, -, -, -, -, -, -, -, -, ⟨o1, o2, o3⟩, k1, k2⟩ := hL
      have keepJ : ∀ o k, o ≠ 130 → c4.2 o k = c3.2 o k := fun o k h => by rw [ec4]; show (setJ (setJ (setJ (setJ c3 130 40 _) 130 41 _) 130 42 _) 130 43 _).2 o k = _; rw [sJ_o h, sJ_o h, sJ_o h, sJ_o h]
      have keepI : ∀ o k, o ≠ 130 → c4.1 o k = c3.1 o k := fun o k h => by rw [ec4, sI_o h]; rfl
      have n28 : ∀ k, c4.2 28 k = st.2 28 k := fun k => hs4.2 28 k (fun w => by
        rcases w with w | w
        · simp at w
        · simp at w)
      have n161 : c4.2 161 0 = st.2 161 0 := hs4.2 161 0 (fun w => by rcases w with w | w <;> simp at w)
      have n162 : c4.2 162 0 = st.2 162 0 := hs4.2 162 0 (fun w => by rcases w with w | w <;> simp at w)
      have i28 : c4.1 28 2 = st.1 28 2 := hs4.1 28 2 (fun w => by rcases w with w | w <;> simp at w)
      refine ⟨p / Nat.gcd p q, q / Nat.gcd p q, r / Nat.gcd r s, s / Nat.gcd r s, m, ⟨a1, a2, a3, a4⟩, ⟨d1, d2, d3, d4⟩, ⟨hm1, hm⟩, ⟨?_, ?_, ?_, ?_, ?_⟩, ⟨?_, ?_, ?_, ?_, ?_⟩, ⟨?_, ?_, ?_, ?_⟩, ⟨?_, ?_, ?_⟩, ?_, ?_⟩
      · rw [keepJ _ _ (by decide), F1.2.1, lZ_nat]
      · rw [keepJ _ _ (by decide), F1.2.2]
      · rw [keepI _ _ (by decide)]; exact F1.1
      · rw [ec4, sI_2, sJ_k (by decide), sJ_k (by decide), sJ_k (by decide), sJ_at]
      · rw [ec4, sI_2, sJ_k (by decide), sJ_k (by decide), sJ_at]
      · rw [keepJ _ _ (by decide), F2.2.1, lZ_nat]
      · rw [keepJ _ _ (by decide), F2.2.2]
      · rw [keepI _ _ (by decide)]; exact F2.1
      · rw [ec4, sI_2, sJ_k (by decide), sJ_at]
      · rw [ec4, sI_2, sJ_at]
      · rw [keepJ _ _ (by decide), f3.2.1, lZ_nat]
      · rw [keepJ _ _ (by decide), f3.2.2]; rfl
      · rw [keepI _ _ (by decide)]; exact f3.1
      · rw [ec4, sI_at]
      · rw [n28, o1]
      · rw [n28, o2]
      · rw [i28, o3]
      · rw [n161, k1]
      · rw [n162, k2]
  · refine ⟨-2, st, st, ?_, ?_, hI⟩
    · simp only [fX10_straight, fX10_straight_s0, b1', Option.bind_some, fX10_straight_s4, fX10_straight_s7, b3', fX10_straight_s11, fX10_straight_s14, pw, b1_neg hz, fX10_straight_s21, fX10_straight_s24]; rfl
    · simp only [fX11_straight, fX11_straight_s0, b2', Option.bind_some, fX11_straight_s4, fX11_straight_s7, b4', fX11_straight_s11, fX11_straight_s14, pinl (lo := 1) (hi := 8) (lo' := 1) (hi' := 8) (by decide) (by decide), b1_neg hz, fX11_straight_s23, fX11_straight_s26]; rfl
