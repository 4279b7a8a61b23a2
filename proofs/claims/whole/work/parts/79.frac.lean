/-! ===== fractions ===== -/
def lZ (z : Int) : Int64 := Int64.ofInt z
theorem lZ_nat (n : Nat) : lZ (n : Int) = lN n := Int64.ofInt_eq_ofNat
theorem lZ_add (a b : Int) : lZ a + lZ b = lZ (a + b) := (Int64.ofInt_add a b).symm
theorem lZ_mul (a b : Int) : lZ a * lZ b = lZ (a * b) := (Int64.ofInt_mul a b).symm
theorem lZ_neg (a : Int) : - lZ a = lZ (-a) := (Int64.ofInt_neg a).symm
theorem lZ_sub (a b : Int) : lZ a - lZ b = lZ (a - b) := by rw [Int64.sub_eq_add_neg, lZ_neg, lZ_add]; rfl
theorem lZ_ti {z : Int} (h : z.natAbs < 2 ^ 63) : (lZ z).toInt = z := Int64.toInt_ofInt_of_le (by omega) (by omega)
theorem lZ_pos {z : Int} (h : z.natAbs < 2 ^ 63) : 0 < lZ z ↔ 0 < z := by rw [Int64.lt_iff_toInt_lt, lZ_ti h]; rfl
theorem lZ_pos' {z : Int} (h : z.natAbs < 2 ^ 63) : 0 ≤ lZ z ↔ 0 ≤ z := by rw [Int64.le_iff_toInt_le, lZ_ti h]; rfl
theorem lZ_abs {z : Int} (h : z.natAbs < 2 ^ 63) : (if 0 < lZ z then lZ z else - lZ z) = lN z.natAbs := by
  rw [← lZ_nat]
  by_cases q : 0 < z
  · rw [if_pos ((lZ_pos h).mpr q)]; congr 1; omega
  · rw [if_neg (fun w => q ((lZ_pos h).mp w)), lZ_neg]; congr 1; omega
theorem lZ_abs' {z : Int} (h : z.natAbs < 2 ^ 63) : (if 0 ≤ lZ z then lZ z else - lZ z) = lN z.natAbs := by
  rw [← lZ_nat]
  by_cases q : 0 ≤ z
  · rw [if_pos ((lZ_pos' h).mpr q)]; congr 1; omega
  · rw [if_neg (fun w => q ((lZ_pos' h).mp w)), lZ_neg]; congr 1; omega
theorem natAbs_div (z : Int) (g : Nat) (h : (g : Int) ∣ z) : (z / (g : Int)).natAbs = z.natAbs / g := by
  obtain ⟨c, rfl⟩ := h
  by_cases q : g = 0
  · subst q; simp
  · rw [Int.mul_ediv_cancel_left _ (by omega), Int.natAbs_mul, Int.natAbs_natCast, Nat.mul_div_cancel_left _ (by omega)]
theorem lZ_div {z : Int} {g : Nat} (h : z.natAbs < 2 ^ 63) (hg : 0 < g) (hg2 : g < 2 ^ 63) (hd : (g : Int) ∣ z) : lZ z / lN g = lZ (z / (g : Int)) := by
  have hb : (z / (g : Int)).natAbs < 2 ^ 63 := by rw [natAbs_div z g hd]; exact Nat.lt_of_le_of_lt (Nat.div_le_self _ _) h
  rw [← Int64.toInt_inj, Int64.toInt_div, lZ_ti h, lZ_ti hb, pk_lT hg2]
  obtain ⟨c, rfl⟩ := hd
  rw [Int.mul_ediv_cancel_left _ (by omega)] at hb ⊢
  rw [Int.mul_tdiv_cancel_left _ (by omega)]
  apply Int.bmod_eq_of_le <;> omega
/-- Euclid's steps end soon -/
theorem c_cd (n : Nat) (st : St) : ∀ (j a b k i : Nat), a < 2 ^ 63 → b < 2 ^ 63 → b < 2 ^ j → 2 * j + 1 < k → i + 2 * j + 1 < 1000 → fX2_commonDivisor_L9 n k (lN a) (lN b) (nI i) st = some (lN (Nat.gcd a b), st) := by
  intro j
  induction j with
  | zero =>
    intro a b k i ha hb hj hk hi
    have : b = 0 := by omega
    subst this
    obtain ⟨k, rfl⟩ : ∃ q, k = q + 1 := ⟨k - 1, by omega⟩
    simp only [fX2_commonDivisor_L9, fX2_commonDivisor_s9, fX2_commonDivisor_s17, fX2_commonDivisor_s45]
    rw [if_neg (show ¬ (1000 : Int32) ≤ nI i from nI_ge (b := 1000) (by omega) (by decide)), if_pos (show lN 0 = 0 from rfl), Nat.gcd_zero_right]
  | succ j ih =>
    intro a b k i ha hb hj hk hi
    obtain ⟨k, rfl⟩ : ∃ q, k = q + 1 := ⟨k - 1, by omega⟩
    simp only [fX2_commonDivisor_L9, fX2_commonDivisor_s9, fX2_commonDivisor_s17, fX2_commonDivisor_s45, fX2_commonDivisor_s24]
    rw [if_neg (show ¬ (1000 : Int32) ≤ nI i from nI_ge (b := 1000) (by omega) (by decide))]
    by_cases z : b = 0
    · subst z
      rw [if_pos (show lN 0 = 0 from rfl), Nat.gcd_zero_right]
    · have zb : ¬ lN b = 0 := fun w => z ((pk_lEQ hb (show 0 < 2 ^ 63 by decide)).mp w)
      rw [if_neg zb, if_neg zb, pk_lRem ha (by omega) hb, nI_1]
      have hr : a % b < b := Nat.mod_lt _ (by omega)
      have eg : Nat.gcd a b = Nat.gcd b (a % b) := by rw [Nat.gcd_comm a b, Nat.gcd_rec, Nat.gcd_comm]
      rw [eg]
      generalize a % b = r at hr ⊢
      obtain ⟨k, rfl⟩ : ∃ q, k = q + 1 := ⟨k - 1, by omega⟩
      simp only [fX2_commonDivisor_L9, fX2_commonDivisor_s9, fX2_commonDivisor_s17, fX2_commonDivisor_s45, fX2_commonDivisor_s24]
      rw [if_neg (show ¬ (1000 : Int32) ≤ nI (i + 1) from nI_ge (b := 1000) (by omega) (by decide))]
      by_cases y : r = 0
      · subst y
        rw [if_pos (show lN 0 = 0 from rfl), Nat.gcd_zero_right]
      · have zr : ¬ lN r = 0 := fun w => y ((pk_lEQ (by omega) (show 0 < 2 ^ 63 by decide)).mp w)
        rw [if_neg zr, if_neg zr, pk_lRem hb (by omega) (by omega), nI_1]
        have eg2 : Nat.gcd b r = Nat.gcd r (b % r) := by rw [Nat.gcd_comm b r, Nat.gcd_rec, Nat.gcd_comm]
        have h1 : b % r < r := Nat.mod_lt _ (by omega)
        have h2 : r + b % r ≤ b := by
          have := Nat.div_add_mod b r
          have h3 : 1 ≤ b / r := (Nat.one_le_div_iff (by omega)).mpr (by omega)
          have h4 : r * 1 ≤ r * (b / r) := Nat.mul_le_mul (Nat.le_refl _) h3
          omega
        have h5 : 2 ^ (j + 1) = 2 * 2 ^ j := by rw [Nat.pow_succ, Nat.mul_comm]
        rw [eg2]
        exact ih r (b % r) k (i + 1 + 1) (by omega) (by omega) (by omega) (by omega) (by omega)
theorem m_dv (n : Nat) (st : St) : ∀ (j a b k : Nat), a < 2 ^ 63 → b < 2 ^ 63 → b < 2 ^ j → 2 * j + 1 < k → fX11_divisor_L28 n k (lN a) (lN b) st = some (lN (Nat.gcd a b), st) := by
  intro j
  induction j with
  | zero =>
    intro a b k ha hb hj hk
    have : b = 0 := by omega
    subst this
    obtain ⟨k, rfl⟩ : ∃ q, k = q + 1 := ⟨k - 1, by omega⟩
    simp only [fX11_divisor_L28, fX11_divisor_s28, fX11_divisor_s53]
    rw [if_pos (show lN 0 = 0 from rfl), Nat.gcd_zero_right]
  | succ j ih =>
    intro a b k ha hb hj hk
    obtain ⟨k, rfl⟩ : ∃ q, k = q + 1 := ⟨k - 1, by omega⟩
    simp only [fX11_divisor_L28, fX11_divisor_s28, fX11_divisor_s53, fX11_divisor_s35]
    by_cases z : b = 0
    · subst z
      rw [if_pos (show lN 0 = 0 from rfl), Nat.gcd_zero_right]
    · have zb : ¬ lN b = 0 := fun w => z ((pk_lEQ hb (show 0 < 2 ^ 63 by decide)).mp w)
      rw [if_neg zb, if_neg zb, pk_lRem ha (by omega) hb]
      have hr : a % b < b := Nat.mod_lt _ (by omega)
      have eg : Nat.gcd a b = Nat.gcd b (a % b) := by rw [Nat.gcd_comm a b, Nat.gcd_rec, Nat.gcd_comm]
      rw [eg]
      generalize a % b = r at hr ⊢
      obtain ⟨k, rfl⟩ : ∃ q, k = q + 1 := ⟨k - 1, by omega⟩
      simp only [fX11_divisor_L28, fX11_divisor_s28, fX11_divisor_s53, fX11_divisor_s35]
      by_cases y : r = 0
      · subst y
        rw [if_pos (show lN 0 = 0 from rfl), Nat.gcd_zero_right]
      · have zr : ¬ lN r = 0 := fun w => y ((pk_lEQ (by omega) (show 0 < 2 ^ 63 by decide)).mp w)
        rw [if_neg zr, if_neg zr, pk_lRem hb (by omega) (by omega)]
        have eg2 : Nat.gcd b r = Nat.gcd r (b % r) := by rw [Nat.gcd_comm b r, Nat.gcd_rec, Nat.gcd_comm]
        have h1 : b % r < r := Nat.mod_lt _ (by omega)
        have h2 : r + b % r ≤ b := by
          have := Nat.div_add_mod b r
          have h3 : 1 ≤ b / r := (Nat.one_le_div_iff (by omega)).mpr (by omega)
          have h4 : r * 1 ≤ r * (b / r) := Nat.mul_le_mul (Nat.le_refl _) h3
          omega
        have h5 : 2 ^ (j + 1) = 2 * 2 ^ j := by rw [Nat.pow_succ, Nat.mul_comm]
        rw [eg2]
        exact ih r (b % r) k (by omega) (by omega) (by omega) (by omega)
theorem m_divisor (n : Nat) (hn : 1000 ≤ n) (st : St) {z y : Int} (hz : z.natAbs < 2 ^ 63) (hy : y.natAbs < 2 ^ 63) : fX11_divisor n (lZ z) (lZ y) st = some (lN (Nat.gcd z.natAbs y.natAbs), st) := by
  have h1 := m_dv n st 63 z.natAbs y.natAbs n hz hy hy (by omega)
  have e2 : ∀ v4, fX11_divisor_s12 n (lZ y) v4 st = fX11_divisor_L28 n n v4 (lN y.natAbs) st := by
    intro v4
    simp only [fX11_divisor_s12, fX11_divisor_s25, fX11_divisor_s20, fX11_divisor_s26]
    rw [← lZ_abs' hy]
    split <;> rfl
  simp only [fX11_divisor, fX11_divisor_s0, fX11_divisor_s11, fX11_divisor_s6, e2]
  rw [← h1, ← lZ_abs' hz]
  split <;> rfl
/-- a fraction: none, once it is spent -/
abbrev Fq := Option (Int × Nat)
def mkF (p : Int) (q : Nat) : Fq := if (p / (Nat.gcd p.natAbs q : Nat)).natAbs ≤ 1000000000 ∧ q / Nat.gcd p.natAbs q ≤ 1000000000 then some (p / (Nat.gcd p.natAbs q : Nat), q / Nat.gcd p.natAbs q) else none
def vF (x : Int × Nat) : Prop := x.1.natAbs ≤ 1000000000 ∧ 1 ≤ x.2 ∧ x.2 ≤ 1000000000
def vO (X : Fq) : Prop := ∀ x, X = some x → vF x
theorem mkF_v {p : Int} {q : Nat} (hq : 1 ≤ q) : vO (mkF p q) := by
  intro x h
  unfold mkF at h
  split at h
  · rename_i hc
    cases h
    refine ⟨hc.1, ?_, hc.2⟩
    exact Nat.div_pos (Nat.le_of_dvd (by omega) (Nat.gcd_dvd_right _ _)) (Nat.gcd_pos_of_pos_right _ (by omega))
  · cases h
def Fr (st : St) (b : Nat) : Fq → Prop
  | none => st.1 b 2 = 1
  | some x => st.1 b 2 = 0 ∧ st.2 b 0 = lZ x.1 ∧ st.2 b 1 = lN x.2
theorem c_become (n b : Nat) (hn : 1000 ≤ n) (st : St) {p : Int} {q : Nat} (hp : p.natAbs < 2 ^ 63) (hq : 1 ≤ q) (hq2 : q < 2 ^ 63) : ∃ st1, fX2_become n b (lZ p) (lN q) st = some ((), st1) ∧ Fr st1 b (mkF p q) ∧ Same [(b, some 2)] [(b, some 0), (b, some 1)] st st1 := by
  have eg := c_cd n st 63 p.natAbs q n 0 hp hq2 hq2 (by omega) (by omega)
  have hg : 0 < Nat.gcd p.natAbs q := Nat.gcd_pos_of_pos_right _ (by omega)
  have hg2 : Nat.gcd p.natAbs q ≤ q := Nat.le_of_dvd (by omega) (Nat.gcd_dvd_right _ _)
  have hd : ((Nat.gcd p.natAbs q : Nat) : Int) ∣ p := Int.ofNat_dvd_left.mpr (Nat.gcd_dvd_left _ _)
  have e1 : (if 0 < lN q then lN q else - lN q) = lN q := by
    rw [if_pos]
    exact (pk_lLT (a := 0) (by decide) hq2).mpr hq
  have hv := natAbs_div p _ hd
  have e3 := lZ_div hp hg (by omega) hd
  have e4 := pk_lDiv hq2 hg (show Nat.gcd p.natAbs q < 2 ^ 63 by omega)
  have hu : (p / ((Nat.gcd p.natAbs q : Nat) : Int)).natAbs < 2 ^ 63 := by rw [hv]; exact Nat.lt_of_le_of_lt (Nat.div_le_self _ _) hp
  have hw : q / Nat.gcd p.natAbs q < 2 ^ 63 := Nat.lt_of_le_of_lt (Nat.div_le_self _ _) hq2
  unfold mkF
  generalize hgg : Nat.gcd p.natAbs q = g at *
  generalize hzz : p / (g : Int) = z at *
  generalize hww : q / g = w at *
  have e5 : fX2_become n b (lZ p) (lN q) st = fX2_become_s61 n b (setJ (setJ st b 0 (lZ z)) b 1 (lN w)) := by
    simp only [fX2_become, fX2_become_s0, fX2_commonDivisor, fX2_commonDivisor_s0]
    rw [lZ_abs hp, e1, show (0 : Int32) = nI 0 from rfl, eg]
    simp only [Option.bind_some, fX2_become_s11, fX2_become_s19, fX2_become_s31, fX2_become_s43, fX2_become_s44, fX2_become_s50]
    rw [if_neg (fun h => by have := (pk_lEQ hq2 (show 0 < 2 ^ 63 by decide)).mp h; omega)]
    have g0 : ¬ lN g = 0 := fun h => by have := (pk_lEQ (show g < 2 ^ 63 by omega) (show 0 < 2 ^ 63 by decide)).mp h; omega
    rw [if_neg g0, if_pos (show (0 : Int64) ≤ lN q from (pk_lLE (a := 0) (by decide) hq2).mpr (by omega)), if_neg g0, if_neg g0, e1, e3, e4]
  have e6 : (setJ (setJ st b 0 (lZ z)) b 1 (lN w)).2 b 0 = lZ z := by rw [sJ_k (by decide), sJ_at]
  have e7 : (setJ (setJ st b 0 (lZ z)) b 1 (lN w)).2 b 1 = lN w := sJ_at
  have hs : ∀ v, Same [(b, some 2)] [(b, some 0), (b, some 1)] st (setI (setJ (setJ st b 0 (lZ z)) b 1 (lN w)) b 2 v) := fun v => ((same_J (Or.inr (mm2 0 rfl))).trans (same_J (Or.inr (mm2 1 rfl)))).trans (same_I (Or.inr (mm2 0 rfl)))
  have c1 : (1000000000 < lN z.natAbs) ↔ ¬ z.natAbs ≤ 1000000000 := by
    rw [show (1000000000 : Int64) = lN 1000000000 from rfl, pk_lLT (by decide) hu]; omega
  have c2 : (lN w ≤ 1000000000) ↔ w ≤ 1000000000 := by
    rw [show (1000000000 : Int64) = lN 1000000000 from rfl, pk_lLE hw (by decide)]
  rw [e5]
  simp only [fX2_become_s61, fX2_become_s76, fX2_become_s87, fX2_become_s91, fX2_become_s92, fX2_become_s95, e6, e7]
  rw [lZ_abs hu]
  by_cases h1 : z.natAbs ≤ 1000000000
  · rw [if_neg (fun h => c1.mp h h1)]
    by_cases h2 : w ≤ 1000000000
    · rw [if_pos (c2.mpr h2), if_pos (show zb 0 = true from rfl), if_pos (⟨h1, h2⟩ : z.natAbs ≤ 1000000000 ∧ w ≤ 1000000000)]
      exact ⟨_, rfl, ⟨sI_at, e6, e7⟩, hs 0⟩
    · rw [if_neg (fun h => h2 (c2.mp h)), if_pos (show zb 1 = true from rfl), if_neg (fun h => h2 h.2)]
      exact ⟨_, rfl, sI_at, hs 1⟩
  · rw [if_pos (c1.mpr h1), if_pos (show zb 1 = true from rfl), if_neg (fun h => h1 h.1)]
    exact ⟨_, rfl, sI_at, hs 1⟩
theorem c_spend (n b : Nat) (st : St) : ∃ st1, fX2_spend n b st = some ((), st1) ∧ Fr st1 b none ∧ Same [(b, some 2)] [(b, some 0), (b, some 1)] st st1 := by
  simp only [fX2_spend, fX2_spend_s0, fX2_spend_s5, fX2_spend_s10, fX2_spend_s15]
  exact ⟨_, rfl, sI_at, ((same_J (Or.inr (mm2 0 rfl))).trans (same_J (Or.inr (mm2 1 rfl)))).trans (same_I (Or.inr (mm2 0 rfl)))⟩
def addF (x y : Int × Nat) : Fq := mkF (x.1 * y.2 + y.1 * x.2) (x.2 * y.2)
def subF (x y : Int × Nat) : Fq := mkF (x.1 * y.2 - y.1 * x.2) (x.2 * y.2)
def mulF (x y : Int × Nat) : Fq := mkF (x.1 * y.1) (x.2 * y.2)
theorem mulB {a b : Nat} (ha : a ≤ 1000000000) (hb : b ≤ 1000000000) : a * b ≤ 1000000000000000000 := Nat.mul_le_mul ha hb
theorem vF_add {x y : Int × Nat} (hx : vF x) (hy : vF y) : (x.1 * (y.2 : Int) + y.1 * (x.2 : Int)).natAbs < 2 ^ 63 ∧ (x.1 * (y.2 : Int) - y.1 * (x.2 : Int)).natAbs < 2 ^ 63 ∧ (x.1 * y.1).natAbs < 2 ^ 63 ∧ 1 ≤ x.2 * y.2 ∧ x.2 * y.2 < 2 ^ 63 := by
  have a1 := mulB hx.1 hy.2.2
  have a2 := mulB hy.1 hx.2.2
  have a3 := mulB hx.1 hy.1
  have a4 := mulB hx.2.2 hy.2.2
  have b1 : (x.1 * (y.2 : Int)).natAbs = x.1.natAbs * y.2 := by rw [Int.natAbs_mul, Int.natAbs_natCast]
  have b2 : (y.1 * (x.2 : Int)).natAbs = y.1.natAbs * x.2 := by rw [Int.natAbs_mul, Int.natAbs_natCast]
  have b3 : (x.1 * y.1).natAbs = x.1.natAbs * y.1.natAbs := Int.natAbs_mul _ _
  have b4 : 1 * 1 ≤ x.2 * y.2 := Nat.mul_le_mul hx.2.1 hy.2.1
  omega
theorem c_sum (n b x y : Nat) (hn : 1000 ≤ n) (st : St) {X Y : Fq} (hX : Fr st x X) (hY : Fr st y Y) (vX : vO X) (vY : vO Y) : ∃ st1, fX2_becomeSum n b x y st = some ((), st1) ∧ Fr st1 b (X.bind fun a => Y.bind fun c => addF a c) ∧ Same [(b, some 2)] [(b, some 0), (b, some 1)] st st1 := by
  obtain ⟨s0, z1, z2, z3⟩ := c_spend n b st
  simp only [fX2_becomeSum, fX2_becomeSum_s0, fX2_becomeSum_s7, fX2_becomeSum_s14, fX2_becomeSum_s18, fX2_becomeSum_s21, fX2_becomeSum_s53, z1, Option.bind_some]
  cases X with
  | none =>
    rw [if_neg (show ¬ st.1 x 2 = 0 by rw [hX]; decide)]
    exact ⟨s0, rfl, z2, z3⟩
  | some a =>
    rw [if_pos hX.1]
    cases Y with
    | none =>
      rw [if_neg (show ¬ st.1 y 2 = 0 by rw [hY]; decide)]
      exact ⟨s0, rfl, z2, z3⟩
    | some c =>
      rw [if_pos hY.1, hX.2.1, hX.2.2, hY.2.1, hY.2.2]
      obtain ⟨q1, q2, q3, q4, q5⟩ := vF_add (vX a rfl) (vY c rfl)
      obtain ⟨s1, g1, g2, g3⟩ := c_become n b hn st q1 q4 q5
      rw [← lZ_nat, ← lZ_nat, lZ_mul, lZ_mul, lZ_add, lZ_mul, ← Int.natCast_mul, lZ_nat, g1]
      exact ⟨s1, rfl, g2, g3⟩
theorem c_dif (n b x y : Nat) (hn : 1000 ≤ n) (st : St) {X Y : Fq} (hX : Fr st x X) (hY : Fr st y Y) (vX : vO X) (vY : vO Y) : ∃ st1, fX2_becomeDifference n b x y st = some ((), st1) ∧ Fr st1 b (X.bind fun a => Y.bind fun c => subF a c) ∧ Same [(b, some 2)] [(b, some 0), (b, some 1)] st st1 := by
  obtain ⟨s0, z1, z2, z3⟩ := c_spend n b st
  simp only [fX2_becomeDifference, fX2_becomeDifference_s0, fX2_becomeDifference_s7, fX2_becomeDifference_s14, fX2_becomeDifference_s18, fX2_becomeDifference_s21, fX2_becomeDifference_s53, z1, Option.bind_some]
  cases X with
  | none =>
    rw [if_neg (show ¬ st.1 x 2 = 0 by rw [hX]; decide)]
    exact ⟨s0, rfl, z2, z3⟩
  | some a =>
    rw [if_pos hX.1]
    cases Y with
    | none =>
      rw [if_neg (show ¬ st.1 y 2 = 0 by rw [hY]; decide)]
      exact ⟨s0, rfl, z2, z3⟩
    | some c =>
      rw [if_pos hY.1, hX.2.1, hX.2.2, hY.2.1, hY.2.2]
      obtain ⟨q1, q2, q3, q4, q5⟩ := vF_add (vX a rfl) (vY c rfl)
      obtain ⟨s1, g1, g2, g3⟩ := c_become n b hn st q2 q4 q5
      rw [← lZ_nat, ← lZ_nat, lZ_mul, lZ_mul, lZ_sub, lZ_mul, ← Int.natCast_mul, lZ_nat, g1]
      exact ⟨s1, rfl, g2, g3⟩
theorem c_prd (n b x y : Nat) (hn : 1000 ≤ n) (st : St) {X Y : Fq} (hX : Fr st x X) (hY : Fr st y Y) (vX : vO X) (vY : vO Y) : ∃ st1, fX2_becomeProduct n b x y st = some ((), st1) ∧ Fr st1 b (X.bind fun a => Y.bind fun c => mulF a c) ∧ Same [(b, some 2)] [(b, some 0), (b, some 1)] st st1 := by
  obtain ⟨s0, z1, z2, z3⟩ := c_spend n b st
  simp only [fX2_becomeProduct, fX2_becomeProduct_s0, fX2_becomeProduct_s7, fX2_becomeProduct_s14, fX2_becomeProduct_s18, fX2_becomeProduct_s21, fX2_becomeProduct_s43, z1, Option.bind_some]
  cases X with
  | none =>
    rw [if_neg (show ¬ st.1 x 2 = 0 by rw [hX]; decide)]
    exact ⟨s0, rfl, z2, z3⟩
  | some a =>
    rw [if_pos hX.1]
    cases Y with
    | none =>
      rw [if_neg (show ¬ st.1 y 2 = 0 by rw [hY]; decide)]
      exact ⟨s0, rfl, z2, z3⟩
    | some c =>
      rw [if_pos hY.1, hX.2.1, hX.2.2, hY.2.1, hY.2.2]
      obtain ⟨q1, q2, q3, q4, q5⟩ := vF_add (vX a rfl) (vY c rfl)
      obtain ⟨s1, g1, g2, g3⟩ := c_become n b hn st q3 q4 q5
      rw [lZ_mul, ← lZ_nat, ← lZ_nat, lZ_mul, ← Int.natCast_mul, lZ_nat, g1]
      exact ⟨s1, rfl, g2, g3⟩
