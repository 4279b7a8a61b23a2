/-! ===== level, levelCost ===== -/
def iZ (z : Int) : Int32 := Int32.ofInt z
theorem iZ_nat (n : Nat) : iZ (n : Int) = nI n := Int32.ofInt_eq_ofNat
theorem iZ_add (a b : Int) : iZ a + iZ b = iZ (a + b) := (Int32.ofInt_add a b).symm
theorem iZ_sub (a b : Int) : iZ a - iZ b = iZ (a - b) := (Int32.ofInt_sub a b).symm
theorem iZ_ti {z : Int} (h : z.natAbs < 2 ^ 31) : (iZ z).toInt = z := Int32.toInt_ofInt_of_le (by omega) (by omega)
theorem iZ_l {z : Int} (h : z.natAbs < 2 ^ 31) : (iZ z).toInt64 = lZ z := by
  rw [← Int64.toInt_inj, Int32.toInt_toInt64, iZ_ti h, lZ_ti (by omega)]
theorem iZ_lt {a b : Int} (ha : a.natAbs < 2 ^ 31) (hb : b.natAbs < 2 ^ 31) : iZ a < iZ b ↔ a < b := by rw [Int32.lt_iff_toInt_lt, iZ_ti ha, iZ_ti hb]
theorem iZ_le {a b : Int} (ha : a.natAbs < 2 ^ 31) (hb : b.natAbs < 2 ^ 31) : iZ a ≤ iZ b ↔ a ≤ b := by rw [Int32.le_iff_toInt_le, iZ_ti ha, iZ_ti hb]
theorem lZ_lt {a b : Int} (ha : a.natAbs < 2 ^ 63) (hb : b.natAbs < 2 ^ 63) : lZ a < lZ b ↔ a < b := by rw [Int64.lt_iff_toInt_lt, lZ_ti ha, lZ_ti hb]
theorem lZ_le {a b : Int} (ha : a.natAbs < 2 ^ 63) (hb : b.natAbs < 2 ^ 63) : lZ a ≤ lZ b ↔ a ≤ b := by rw [Int64.le_iff_toInt_le, lZ_ti ha, lZ_ti hb]
theorem iZ_of {x : Int32} {lo hi : Int} (hlo : lo.natAbs < 2 ^ 31) (hhi : hi.natAbs < 2 ^ 31) (h1 : iZ lo ≤ x) (h2 : x ≤ iZ hi) : ∃ z : Int, lo ≤ z ∧ z ≤ hi ∧ x = iZ z := by
  rw [Int32.le_iff_toInt_le, iZ_ti hlo] at h1
  rw [Int32.le_iff_toInt_le, iZ_ti hhi] at h2
  refine ⟨x.toInt, h1, h2, ?_⟩
  rw [← Int32.toInt_inj, iZ_ti (by omega)]
def sumZ (f : Nat → Int) : Nat → Int
  | 0 => 0
  | k + 1 => sumZ f k + f k
theorem sumZ_congr {f g : Nat → Int} : ∀ k, (∀ i, i < k → f i = g i) → sumZ f k = sumZ g k := by
  intro k
  induction k with
  | zero => intro _; rfl
  | succ k ih => intro h; rw [sumZ, sumZ, ih (fun i hi => h i (by omega)), h k (by omega)]
theorem sumZ_cut {f : Nat → Int} {N : Nat} : ∀ k, N ≤ k → (∀ s, N ≤ s → s < k → f s = 0) → sumZ f k = sumZ f N := by
  intro k
  induction k with
  | zero => intro h _; rw [show N = 0 by omega]
  | succ k ih =>
    intro h h0
    by_cases q : N = k + 1
    · rw [q]
    · rw [sumZ, h0 k (by omega) (by omega), ih (by omega) (fun s h1 h2 => h0 s h1 (by omega))]; omega
theorem sumZ_mul (c : Int) (f : Nat → Int) : ∀ k, sumZ (fun i => c * f i) k = c * sumZ f k := by
  intro k
  induction k with
  | zero => show (0 : Int) = c * 0; rw [Int.mul_zero]
  | succ k ih => rw [sumZ, sumZ, ih, Int.mul_add]
theorem sumZ_add (f g : Nat → Int) : ∀ k, sumZ (fun i => f i + g i) k = sumZ f k + sumZ g k := by
  intro k
  induction k with
  | zero => rfl
  | succ k ih => rw [sumZ, sumZ, sumZ, ih]; omega
theorem sumZ_nat (f : Nat → Nat) : ∀ k, sumZ (fun i => (f i : Int)) k = (sumN f k : Nat) := by
  intro k
  induction k with
  | zero => rfl
  | succ k ih => rw [sumZ, sumN, ih]; omega
/-- sums beyond 4 a week have no weight; and no weight is above 45 to the number of weeks -/
theorem chN_far (w : Nat → Nat) : ∀ k x, 4 * k < x → chN w k x = 0 := by
  intro k
  induction k with
  | zero => intro x hx; rw [chN, if_neg (by omega)]
  | succ k ih =>
    intro x hx
    rw [chN, convN, sumN_congr (g := fun _ => 0) 5 (fun d hd => by unfold cvT; rw [ih (x - d) (by omega)]; split <;> rfl)]
    rfl
theorem chN_bd (w : Nat → Nat) (hw : ∀ d, d < 5 → w d ≤ 9) : ∀ k x, chN w k x ≤ 45 ^ k := by
  intro k
  induction k with
  | zero => intro x; rw [chN]; split <;> decide
  | succ k ih =>
    intro x
    rw [chN, convN]
    refine Nat.le_trans (sumN_bd (B := 9 * 45 ^ k) 5 (fun d hd => ?_)) (by rw [Nat.pow_succ]; omega)
    unfold cvT
    split
    · exact Nat.mul_le_mul (hw d hd) (ih _)
    · exact Nat.zero_le _
def tC (h g b : Nat) (y : Int) (x : Nat) : Int := (h : Int) * (y - x) + (if (x : Int) ≤ y then 0 else ((b + h + g : Nat) : Int) * (x - y))
def fC (f : Nat → Nat) (h g b : Nat) (y : Int) (x : Nat) : Int := (f x : Int) * tC h g b y x
def nearZ (f : Nat → Nat) (h g b : Nat) (y : Int) : Int := sumZ (fC f h g b y) 17
theorem c_nearSum (n : Nat) (f : Nat → Nat) (h g b : Nat) (y : Int) (hh : h ≤ 9) (hg : g ≤ 9) (hb : b ≤ 99) (hy1 : -42 ≤ y) (hy2 : y ≤ 30) (st : St) (eh : st.1 37 7 = nI h) (eg : st.1 37 8 = nI g) (eb : st.1 37 9 = nI b) (ef : ∀ x, x < 17 → st.2 40 x = lN (f x)) : ∀ (j k : Nat), k ≤ 17 → 17 - k < j → fX3_nearSum_L5 n j (iZ y) (lZ (sumZ (fC f h g b y) k)) (nI k) st = some (lZ (nearZ f h g b y), st) := by
  intro j
  induction j with
  | zero => intro k _ hj; omega
  | succ j ih =>
    intro k hk hj
    simp only [fX3_nearSum_L5, fX3_nearSum_s5]
    by_cases q : k = 17
    · subst q
      rw [if_pos (show (17 : Int32) ≤ nI 17 by decide)]
      rfl
    · rw [if_neg (show ¬ (17 : Int32) ≤ nI k from nI_ge (b := 17) (by omega) (by decide))]
      have e60 : ∀ v : Int, fX3_nearSum_s60 n (fX3_nearSum_L5 n j) (iZ y) (lZ (sumZ (fC f h g b y) k)) (nI k) (lZ v) st = fX3_nearSum_L5 n j (iZ y) (lZ (sumZ (fC f h g b y) k + (f k : Int) * v)) (nI (k + 1)) st := by
        intro v
        simp only [fX3_nearSum_s60, inb_nI (show k < 17 by omega) (by decide), nI_clamp (show k < 2 ^ 31 by omega), if_true, ef k (by omega), nI_1]
        rw [← lZ_nat, lZ_mul, lZ_add]
      have eh1 : (st.1 37 7).toInt64 = lZ (h : Int) := by rw [eh, nI_l (by omega), lZ_nat]
      have es1 : (((st.1 37 9) + (st.1 37 7)) + (st.1 37 8)).toInt64 = lZ ((b + h + g : Nat) : Int) := by rw [eh, eg, eb, nI_add, nI_add, nI_l (by omega), lZ_nat]
      have d1 : (iZ y - nI k).toInt64 = lZ (y - k) := by rw [← iZ_nat, iZ_sub, iZ_l (by omega)]
      have d2 : (nI k - iZ y).toInt64 = lZ (k - y) := by rw [← iZ_nat, iZ_sub, iZ_l (by omega)]
      simp only [fX3_nearSum_s15]
      by_cases r : (k : Int) ≤ y
      · rw [if_pos (show nI k ≤ iZ y from by rw [← iZ_nat, iZ_le (by omega) (by omega)]; exact r), eh1, d1, lZ_mul, e60]
        have : sumZ (fC f h g b y) k + (f k : Int) * ((h : Int) * (y - k)) = sumZ (fC f h g b y) (k + 1) := by
          rw [sumZ, fC, tC, if_pos r, Int.add_zero]
        rw [this]
        exact ih (k + 1) (by omega) (by omega)
      · rw [if_neg (show ¬ nI k ≤ iZ y from by rw [← iZ_nat, iZ_le (by omega) (by omega)]; exact r)]
        simp only [fX3_nearSum_s34]
        rw [eh1, d1, es1, d2, lZ_mul, lZ_mul, lZ_add, e60]
        have : sumZ (fC f h g b y) k + (f k : Int) * ((h : Int) * (y - k) + ((b + h + g : Nat) : Int) * (k - y)) = sumZ (fC f h g b y) (k + 1) := by
          rw [sumZ, fC, tC, if_neg r]
        rw [this]
        exact ih (k + 1) (by omega) (by omega)
/-! the best of 0 .. k, the least of several -/
def bestN (v : Nat → Int64) : Nat → Nat
  | 0 => 0
  | k + 1 => if v (bestN v k) ≤ v (k + 1) then bestN v k else k + 1
theorem bestN_le (v : Nat → Int64) : ∀ k, bestN v k ≤ k := by
  intro k
  induction k with
  | zero => exact Nat.le_refl _
  | succ k ih => rw [bestN]; split <;> omega
/-- what work leaves behind -/
def LvC (st : St) (f gg : Nat → Nat) (h g b nr : Nat) : Prop := st.1 37 7 = nI h ∧ st.1 37 8 = nI g ∧ st.1 37 9 = nI b ∧ st.1 37 10 = nI nr ∧ st.2 37 11 = lN (sumN f 17) ∧ (∀ x, x < 13 → st.2 41 x = lN (gg x)) ∧ ∀ k, k < 73 → st.2 42 k = lZ (nearZ f h g b ((k : Int) - 42))
theorem c_nearCost (n : Nat) (st : St) (v : Nat → Int64) (hv : ∀ k, k < 73 → st.2 42 k = v k) (y : Int) (hy1 : -42 ≤ y) (hy2 : y ≤ 30) : fX3_nearCost n (iZ y) st = some (v (y + 42).toNat, st) := by
  have hin : (-42 : Int32) ≤ iZ y ∧ iZ y ≤ 30 := by
    rw [show (-42 : Int32) = iZ (-42) from by decide, show (30 : Int32) = iZ 30 from by decide, iZ_le (by omega) (by omega), iZ_le (by omega) (by omega)]
    exact ⟨hy1, hy2⟩
  have e : iZ y - (-42) = nI (y + 42).toNat := by
    rw [show (-42 : Int32) = iZ (-42) from by decide, iZ_sub, ← iZ_nat]; congr 1; omega
  simp only [fX3_nearCost, fX3_nearCost_s0, pw, b1_pos hin, Option.bind_some, fX3_nearCost_s8, if_neg (show ¬ (1 : Int32) = 0 by decide), fX3_nearCost_s11, e, inb_nI (show (y + 42).toNat < 73 by omega) (by decide), nI_clamp (show (y + 42).toNat < 2 ^ 31 by omega), if_true, hv _ (show (y + 42).toNat < 73 by omega), fX3_nearCost_s24]
theorem c_work104 (n : Nat) (v : Nat → Int64) : ∀ (j k : Nat) (st : St), 1 ≤ k → k ≤ 31 → 31 - k < j → (∀ i, i < 73 → st.2 42 i = v i) → st.1 37 10 = nI (bestN (fun i => v (i + 42)) (k - 1)) → ∃ st1, fX3_work_L104 n j (nI k) st = some ((), st1) ∧ st1.2 = st.2 ∧ (∀ o q, ¬ (o = 37 ∧ q = 10) → st1.1 o q = st.1 o q) ∧ st1.1 37 10 = nI (bestN (fun i => v (i + 42)) 30) := by
  intro j
  induction j with
  | zero => intro k _ _ _ hj; omega
  | succ j ih =>
    intro k st h1 hk hj hv hb
    simp only [fX3_work_L104, fX3_work_s104]
    by_cases q : k = 31
    · subst q
      rw [if_pos (show (30 : Int32) < nI 31 by decide)]
      exact ⟨st, rfl, rfl, fun _ _ _ => rfl, hb⟩
    · rw [if_neg (show ¬ (30 : Int32) < nI k from nI_nlt (a := 30) (by omega) (by decide))]
      have hbl := bestN_le (fun i => v (i + 42)) (k - 1)
      have e1 : fX3_nearCost n (nI k) st = some (v (k + 42), st) := by
        have := c_nearCost n st v hv (k : Int) (by omega) (by omega)
        rw [iZ_nat, show ((k : Int) + 42).toNat = k + 42 by omega] at this
        exact this
      have e2 : fX3_nearCost n (st.1 37 10) st = some (v (bestN (fun i => v (i + 42)) (k - 1) + 42), st) := by
        have := c_nearCost n st v hv (bestN (fun i => v (i + 42)) (k - 1) : Int) (by omega) (by omega)
        rw [iZ_nat, show ((bestN (fun i => v (i + 42)) (k - 1) : Int) + 42).toNat = bestN (fun i => v (i + 42)) (k - 1) + 42 by omega] at this
        rw [hb]; exact this
      have hstep : fX3_work_s110 n (fX3_work_L104 n j) (nI k) st = fX3_work_L104 n j (nI (k + 1)) (setI st 37 10 (nI (bestN (fun i => v (i + 42)) k))) := by
        simp only [fX3_work_s110, e1, Option.bind_some, fX3_work_s116, e2, fX3_work_s124, fX3_work_s132, fX3_work_s128, fX3_work_s136, fX3_work_s139, nI_1]
        have hk1 : k = (k - 1) + 1 := by omega
        by_cases c : v (bestN (fun i => v (i + 42)) (k - 1) + 42) ≤ v (k + 42)
        · rw [if_pos c, hb]
          conv => rhs; rw [hk1, bestN]
          rw [if_pos (by rw [← hk1]; exact c), ← hk1]
        · rw [if_neg c]
          conv => rhs; rw [hk1, bestN]
          rw [if_neg (by rw [← hk1]; exact c), ← hk1]
      rw [hstep]
      obtain ⟨s1, g1, g2, g3, g4⟩ := ih (k + 1) (setI st 37 10 (nI (bestN (fun i => v (i + 42)) k))) (by omega) (by omega) (by omega) hv (by rw [sI_at]; rfl)
      refine ⟨s1, g1, g2, fun o q ho => ?_, g4⟩
      rw [g3 o q ho]
      by_cases c : o = 37
      · subst c; exact sI_k (fun e => ho ⟨rfl, e⟩)
      · rw [sI_o c]
theorem c_work71 (n : Nat) (hn : 100 ≤ n) (f : Nat → Nat) (h g b : Nat) (hh : h ≤ 9) (hg : g ≤ 9) (hb : b ≤ 99) : ∀ (j k : Nat) (st : St), k ≤ 73 → 73 - k < j → st.1 37 7 = nI h → st.1 37 8 = nI g → st.1 37 9 = nI b → (∀ x, x < 17 → st.2 40 x = lN (f x)) → (∀ i, i < k → st.2 42 i = lZ (nearZ f h g b ((i : Int) - 42))) → ∃ st1, fX3_work_L71 n j (iZ ((k : Int) - 42)) st = some ((), st1) ∧ (∀ o, o ≠ 42 → st1.2 o = st.2 o) ∧ (∀ o q, ¬ (o = 37 ∧ q = 10) → st1.1 o q = st.1 o q) ∧ st1.1 37 10 = nI (bestN (fun i => lZ (nearZ f h g b (i : Int))) 30) ∧ ∀ i, i < 73 → st1.2 42 i = lZ (nearZ f h g b ((i : Int) - 42)) := by
  intro j
  induction j with
  | zero => intro k _ _ hj; omega
  | succ j ih =>
    intro k st hk hj eh eg eb ef hv
    simp only [fX3_work_L71, fX3_work_s71]
    by_cases q : k = 73
    · subst q
      rw [if_pos (show (30 : Int32) < iZ ((73 : Nat) - 42) by decide)]
      simp only [fX3_work_s97, fX3_work_s102]
      obtain ⟨s1, g1, g2, g3, g4⟩ := c_work104 n (fun i => lZ (nearZ f h g b ((i : Int) - 42))) n 1 (setI st 37 10 0) (by omega) (by omega) (by omega) hv (by rw [sI_at]; rfl)
      refine ⟨s1, g1, fun o _ => by rw [g2]; rfl, fun o q ho => ?_, ?_, fun i hi => by rw [g2]; exact hv i hi⟩
      · rw [g3 o q ho]
        by_cases c : o = 37
        · subst c; exact sI_k (fun e => ho ⟨rfl, e⟩)
        · rw [sI_o c]
      · rw [g4]
        congr 2
        funext i
        show lZ (nearZ f h g b (((i + 42 : Nat) : Int) - 42)) = _
        rw [show (((i + 42 : Nat) : Int) - 42) = (i : Int) by omega]
    · have hy : ((k : Int) - 42).natAbs < 2 ^ 31 := by omega
      rw [if_neg (show ¬ (30 : Int32) < iZ ((k : Int) - 42) from by rw [show (30 : Int32) = iZ 30 from by decide, iZ_lt (by omega) hy]; omega)]
      have e := c_nearSum n f h g b ((k : Int) - 42) hh hg hb (by omega) (by omega) st eh eg eb ef n 0 (by omega) (by omega)
      have hi : iZ ((k : Int) - 42) - (-42) = nI k := by rw [show (-42 : Int32) = iZ (-42) from by decide, iZ_sub, ← iZ_nat]; congr 1; omega
      have hp : iZ ((k : Int) - 42) + 1 = iZ (((k + 1 : Nat) : Int) - 42) := by rw [show (1 : Int32) = iZ 1 from by decide, iZ_add]; congr 1; omega
      simp only [fX3_work_s77, fX3_nearSum, fX3_nearSum_s0]
      rw [show lZ (sumZ (fC f h g b ((k : Int) - 42)) 0) = 0 from by show lZ 0 = 0; decide, show nI 0 = 0 from rfl] at e
      rw [e]
      simp only [Option.bind_some, fX3_work_s90, fX3_work_s91, hi, hp, inb_nI (show k < 73 by omega) (by decide), nI_clamp (show k < 2 ^ 31 by omega), if_true]
      obtain ⟨s1, g1, g2, g3, g4, g5⟩ := ih (k + 1) (setJ st 42 k (lZ (nearZ f h g b ((k : Int) - 42)))) (by omega) (by omega) eh eg eb (fun x hx => by rw [sJ_o (by decide)]; exact ef x hx) (fun i hi => by
        by_cases p : i = k
        · subst p; rw [sJ_at]
        · rw [sJ_k p]; exact hv i (by omega))
      exact ⟨s1, g1, fun o ho => by rw [g2 o ho, sJ_o ho], g3, g4, g5⟩
theorem c_work41 (n : Nat) (hn : 100 ≤ n) (f : Nat → Nat) (K : St → Prop) (hK : ∀ st, K st → ∀ v, K (setJ st 37 11 v)) (h40 : ∀ st, K st → ∀ x, x < 17 → st.2 40 x = lN (f x)) : ∀ (j k : Nat) (st : St), k ≤ 17 → 17 - k < j → K st → st.2 37 11 = lN (sumN f k) → ∃ st1, K st1 ∧ st1.2 37 11 = lN (sumN f 17) ∧ fX3_work_L41 n j 17 (nI k) st = fX3_work_s68 n st1 := by
  intro j
  induction j with
  | zero => intro k _ _ hj; omega
  | succ j ih =>
    intro k st hk hj hKs hs
    simp only [fX3_work_L41, fX3_work_s41]
    by_cases q : k = 17
    · subst q
      rw [if_pos (show (17 : Int32) ≤ nI 17 by decide)]
      exact ⟨st, hKs, hs, rfl⟩
    · rw [if_neg (show ¬ (17 : Int32) ≤ nI k from nI_ge (b := 17) (by omega) (by decide))]
      simp only [fX3_work_s46, fX3_work_s62, inb_nI (show k < 17 by omega) (by decide), nI_clamp (show k < 2 ^ 31 by omega), if_true, h40 st hKs k (by omega), hs, lN_add, nI_1]
      exact ih (k + 1) _ (by omega) (by omega) (hK st hKs _) (by rw [sJ_at]; rfl)
theorem c_work (n : Nat) (hn : 100 ≤ n) (w : Nat → Nat) (h g b l m : Nat) (hh : h ≤ 9) (hg : g ≤ 9) (hb : b ≤ 99) (hl : l ≤ 3) (hm : m ≤ 3) (st : St) (hw : ∀ d, d < 5 → st.1 38 d = nI (w d) ∧ w d ≤ 9) (el : st.1 37 5 = nI l) (em : st.1 37 6 = nI m) (eh : st.1 37 7 = nI h) (eg : st.1 37 8 = nI g) (eb : st.1 37 9 = nI b) : ∃ st1, fX3_work n st = some ((), st1) ∧ LvC st1 (chN w (l + 1)) (chN w m) h g b (bestN (fun i => lZ (nearZ (chN w (l + 1)) h g b (i : Int))) 30) := by
  obtain ⟨s1, a1, a2, a3, a4⟩ := c_addUp n 17 40 hn w (l + 1) (by omega) (by decide) st hw
  obtain ⟨s2, b1, b2, b3, b4⟩ := c_addUp n 13 41 hn w m (by omega) (by decide) s1 (by rw [a2]; exact hw)
  obtain ⟨s3, c1, c2, c3⟩ := c_work41 n hn (chN w (l + 1)) (fun s => s.1 = st.1 ∧ (∀ x, x < 17 → s.2 40 x = lN (chN w (l + 1) x)) ∧ ∀ x, x < 13 → s.2 41 x = lN (chN w m x)) (fun s hs v => ⟨hs.1, fun x hx => by rw [sJ_o (by decide)]; exact hs.2.1 x hx, fun x hx => by rw [sJ_o (by decide)]; exact hs.2.2 x hx⟩) (fun s hs => hs.2.1) n 0 (setJ s2 37 11 0) (by omega) (by omega) ⟨b2.trans a2, fun x hx => by rw [sJ_o (by decide), b3 40 (by decide)]; exact a4 x hx, fun x hx => by rw [sJ_o (by decide)]; exact b4 x hx⟩ (by rw [sJ_at]; rfl)
  obtain ⟨c1a, c1b, c1c⟩ := c1
  obtain ⟨s4, d1, d2, d3, d4, d5⟩ := c_work71 n hn (chN w (l + 1)) h g b hh hg hb n 0 s3 (by omega) (by omega) (by rw [c1a]; exact eh) (by rw [c1a]; exact eg) (by rw [c1a]; exact eb) c1b (fun i hi => by omega)
  refine ⟨s4, ?_, ?_, ?_, ?_, d4, ?_, ?_, d5⟩
  · simp only [fX3_work, fX3_work_s0, el, nI_1, a1, Option.bind_some, fX3_work_s14]
    rw [show s1.1 37 6 = nI m from by rw [a2]; exact em, b1]
    simp only [Option.bind_some, fX3_work_s26, fX3_work_s31]
    rw [show (0 : Int32) = nI 0 from rfl, c3]
    exact d1
  · rw [d3 37 7 (by decide), c1a]; exact eh
  · rw [d3 37 8 (by decide), c1a]; exact eg
  · rw [d3 37 9 (by decide), c1a]; exact eb
  · rw [d2 37 (by decide)]; exact c2
  · intro x hx; rw [d2 41 (by decide)]; exact c1c x hx
/-! the far stage -/
def fK (f gg : Nat → Nat) (h g b nr : Nat) (y : Int) (x : Nat) : Int := (gg x : Int) * ((g : Int) * (y - x) * (sumN f 17 : Nat) + nearZ f h g b (if y - x < nr then y - x else nr))
def farZ (f gg : Nat → Nat) (h g b nr : Nat) (y : Int) : Int := sumZ (fK f gg h g b nr y) 13
theorem c_farCost (n : Nat) (f gg : Nat → Nat) (h g b nr : Nat) (hg : g ≤ 9) (hnr : nr ≤ 30) (y : Int) (hy1 : -30 ≤ y) (hy2 : y ≤ 30) (st : St) (H : LvC st f gg h g b nr) : ∀ (j k : Nat), k ≤ 13 → 13 - k < j → fX3_farCost_L5 n j (iZ y) (lZ (sumZ (fK f gg h g b nr y) k)) (nI k) st = some (lZ (farZ f gg h g b nr y), st) := by
  obtain ⟨eh, eg, eb, en, ew, e41, e42⟩ := H
  intro j
  induction j with
  | zero => intro k _ hj; omega
  | succ j ih =>
    intro k hk hj
    simp only [fX3_farCost_L5, fX3_farCost_s5]
    by_cases q : k = 13
    · subst q
      rw [if_pos (show (13 : Int32) ≤ nI 13 by decide)]
      rfl
    · rw [if_neg (show ¬ (13 : Int32) ≤ nI k from nI_ge (b := 13) (by omega) (by decide))]
      have d0 : iZ y - nI k = iZ (y - k) := by rw [← iZ_nat, iZ_sub]
      have d1 : (iZ (y - k)).toInt64 = lZ (y - k) := iZ_l (by omega)
      have dm : (if iZ (y - k) < nI nr then iZ (y - k) else nI nr) = iZ (if y - k < (nr : Int) then y - k else (nr : Int)) := by
        by_cases c : y - k < (nr : Int)
        · rw [if_pos c, if_pos (by rw [← iZ_nat, iZ_lt (by omega) (by omega)]; exact c)]
        · rw [if_neg c, if_neg (by rw [← iZ_nat, iZ_lt (by omega) (by omega)]; exact c), iZ_nat]
      have hm : -42 ≤ (if y - k < (nr : Int) then y - k else (nr : Int)) ∧ (if y - k < (nr : Int) then y - k else (nr : Int)) ≤ 30 := by
        by_cases c : y - k < (nr : Int)
        · rw [if_pos c]; omega
        · rw [if_neg c]; omega
      have ec := c_nearCost n st (fun k => lZ (nearZ f h g b ((k : Int) - 42))) e42 _ hm.1 hm.2
      simp only [fX3_farCost_s15, inb_nI (show k < 13 by omega) (by decide), nI_clamp (show k < 2 ^ 31 by omega), if_true, d0, en, dm, ec, Option.bind_some, fX3_farCost_s58, d1, eg, ew, e41 k (by omega), nI_1]
      rw [nI_l (by omega), ← lZ_nat g, ← lZ_nat (sumN f 17), ← lZ_nat (gg k), lZ_mul, lZ_mul, lZ_add, lZ_mul, lZ_add]
      have : sumZ (fK f gg h g b nr y) k + (gg k : Int) * ((g : Int) * (y - k) * (sumN f 17 : Nat) + nearZ f h g b (((((if y - k < (nr : Int) then y - k else (nr : Int)) + 42).toNat : Nat) : Int) - 42)) = sumZ (fK f gg h g b nr y) (k + 1) := by
        rw [sumZ, fK]
        congr 4
        omega
      rw [this]
      exact ih (k + 1) (by omega) (by omega)
theorem c_farC (n : Nat) (hn : 100 ≤ n) (f gg : Nat → Nat) (h g b nr : Nat) (hg : g ≤ 9) (hnr : nr ≤ 30) (y : Int) (hy1 : -30 ≤ y) (hy2 : y ≤ 30) (st : St) (H : LvC st f gg h g b nr) : fX3_farCost n (iZ y) st = some (lZ (farZ f gg h g b nr y), st) := by
  simp only [fX3_farCost, fX3_farCost_s0]
  exact c_farCost n f gg h g b nr hg hnr y hy1 hy2 st H n 0 (by omega) (by omega)
theorem c_far11 (n : Nat) (hn : 100 ≤ n) (f gg : Nat → Nat) (h g b nr : Nat) (hg : g ≤ 9) (hnr : nr ≤ 30) (st : St) (H : LvC st f gg h g b nr) : ∀ (j k : Nat), 1 ≤ k → k ≤ 31 → 31 - k < j → fX3_far_L11 n j (nI (bestN (fun i => lZ (farZ f gg h g b nr (i : Int))) (k - 1))) (lZ (farZ f gg h g b nr (bestN (fun i => lZ (farZ f gg h g b nr (i : Int))) (k - 1) : Nat))) (nI k) st = some (nI (bestN (fun i => lZ (farZ f gg h g b nr (i : Int))) 30), st) := by
  intro j
  induction j with
  | zero => intro k _ _ hj; omega
  | succ j ih =>
    intro k h1 hk hj
    simp only [fX3_far_L11, fX3_far_s11]
    by_cases q : k = 31
    · subst q
      rw [if_pos (show (30 : Int32) < nI 31 by decide)]
      rfl
    · rw [if_neg (show ¬ (30 : Int32) < nI k from nI_nlt (a := 30) (by omega) (by decide))]
      have e := c_farC n hn f gg h g b nr hg hnr (k : Int) (by omega) (by omega) st H
      rw [iZ_nat] at e
      simp only [fX3_far_s18, e, Option.bind_some, fX3_far_s24, fX3_far_s39, fX3_far_s33, nI_1]
      have hk1 : k = (k - 1) + 1 := by omega
      have ih' := ih (k + 1) (by omega) (by omega) (by omega)
      rw [show k + 1 - 1 = k by omega] at ih'
      by_cases c : lZ (farZ f gg h g b nr (bestN (fun i => lZ (farZ f gg h g b nr (i : Int))) (k - 1) : Nat)) ≤ lZ (farZ f gg h g b nr (k : Int))
      · have e3 : bestN (fun i => lZ (farZ f gg h g b nr (i : Int))) k = bestN (fun i => lZ (farZ f gg h g b nr (i : Int))) (k - 1) := by
          conv => lhs; rw [hk1, bestN]
          rw [if_pos (by rw [← hk1]; exact c)]
        rw [if_pos c]
        rw [e3] at ih'
        exact ih'
      · have e3 : bestN (fun i => lZ (farZ f gg h g b nr (i : Int))) k = k := by
          conv => lhs; rw [hk1, bestN]
          rw [if_neg (by rw [← hk1]; exact c)]; omega
        rw [if_neg c]
        rw [e3] at ih'
        exact ih'
theorem c_far (n : Nat) (hn : 100 ≤ n) (f gg : Nat → Nat) (h g b nr : Nat) (hg : g ≤ 9) (hnr : nr ≤ 30) (st : St) (H : LvC st f gg h g b nr) : fX3_far n st = some (nI (bestN (fun i => lZ (farZ f gg h g b nr (i : Int))) 30), st) := by
  have e := c_farC n hn f gg h g b nr hg hnr 0 (by omega) (by omega) st H
  rw [show iZ 0 = 0 from by decide] at e
  simp only [fX3_far, fX3_far_s0, e, Option.bind_some, fX3_far_s7]
  exact c_far11 n hn f gg h g b nr hg hnr st H n 1 (by omega) (by omega) (by omega)
/-! the reference's -/
def LvM (st : St) (f gg : Nat → Nat) (h g b : Nat) : Prop := st.2 130 63 = lN h ∧ st.2 130 64 = lN g ∧ st.2 130 65 = lN b ∧ (∀ x, x < 25 → st.2 166 x = lN (f x)) ∧ ∀ x, x < 25 → st.2 166 (25 + x) = lN (gg x)
theorem m_allNear (n : Nat) (f : Nat → Nat) (st : St) (e : ∀ x, x < 25 → st.2 166 x = lN (f x)) : ∀ (j k : Nat), k ≤ 25 → 25 - k < j → fX11_allNear_L4 n j (lN (sumN f k)) (nI k) st = some (lN (sumN f 25), st) := by
  intro j
  induction j with
  | zero => intro k _ hj; omega
  | succ j ih =>
    intro k hk hj
    simp only [fX11_allNear_L4, fX11_allNear_s4]
    by_cases q : k = 25
    · subst q
      rw [if_pos (show (25 : Int32) ≤ nI 25 by decide)]
      rfl
    · rw [if_neg (show ¬ (25 : Int32) ≤ nI k from nI_ge (b := 25) (by omega) (by decide))]
      simp only [fX11_allNear_s10, inb_nI (show k < 50 by omega) (by decide), nI_clamp (show k < 2 ^ 31 by omega), if_true, e k (by omega), lN_add, nI_1]
      exact ih (k + 1) (by omega) (by omega)
theorem m_allN (n : Nat) (hn : 100 ≤ n) (f : Nat → Nat) (hf : ∀ x, 17 ≤ x → f x = 0) (st : St) (e : ∀ x, x < 25 → st.2 166 x = lN (f x)) : fX11_allNear n st = some (lN (sumN f 17), st) := by
  simp only [fX11_allNear, fX11_allNear_s0]
  have := m_allNear n f st e n 0 (by omega) (by omega)
  rw [sumN_cut (N := 17) 25 (by decide) (fun s h1 _ => hf s h1)] at this
  exact this
theorem m_near53 (n : Nat) (f gg : Nat → Nat) (h g b : Nat) (st : St) (H : LvM st f gg h g b) (a : Int) (low : Int) (hl1 : -30 ≤ low) (hl2 : low ≤ 30) : ∀ (j k : Nat), k ≤ 25 → 25 - k < j → fX11_near_L53 n j (lZ low) (lZ (a + sumZ (fC f h g b low) k)) (nI k) st = some (lZ (a + sumZ (fC f h g b low) 25), st) := by
  obtain ⟨eh, eg, eb, ef, -⟩ := H
  intro j
  induction j with
  | zero => intro k _ hj; omega
  | succ j ih =>
    intro k hk hj
    simp only [fX11_near_L53, fX11_near_s53]
    by_cases q : k = 25
    · subst q
      rw [if_pos (show (25 : Int32) ≤ nI 25 by decide)]
      rfl
    · rw [if_neg (show ¬ (25 : Int32) ≤ nI k from nI_ge (b := 25) (by omega) (by decide))]
      have ek : (nI k).toInt64 = lZ (k : Int) := by rw [nI_l (by omega), lZ_nat]
      simp only [fX11_near_s60, fX11_near_s110, fX11_near_s87, fX11_near_s111, inb_nI (show k < 50 by omega) (by decide), nI_clamp (show k < 2 ^ 31 by omega), if_true, ef k (by omega), nI_1, ek, eh, eg, eb]
      rw [← lZ_nat h, ← lZ_nat g, ← lZ_nat b, ← lZ_nat (f k), lZ_sub, lZ_sub, lZ_mul, lZ_add, lZ_add, lZ_mul]
      by_cases r : (k : Int) ≤ low
      · rw [if_pos (show lZ (k : Int) ≤ lZ low from (lZ_le (by omega) (by omega)).mpr r), show (0 : Int64) = lZ 0 from by decide, lZ_add, lZ_mul, lZ_add]
        have : a + sumZ (fC f h g b low) k + (f k : Int) * ((h : Int) * (low - k) + 0) = a + sumZ (fC f h g b low) (k + 1) := by
          rw [sumZ, fC, tC, if_pos r]; omega
        rw [this]
        exact ih (k + 1) (by omega) (by omega)
      · rw [if_neg (show ¬ lZ (k : Int) ≤ lZ low from fun w => r ((lZ_le (by omega) (by omega)).mp w)), lZ_add, lZ_mul, lZ_add]
        have : a + sumZ (fC f h g b low) k + (f k : Int) * ((h : Int) * (low - k) + ((b : Int) + h + g) * (k - low)) = a + sumZ (fC f h g b low) (k + 1) := by
          rw [sumZ, fC, tC, if_neg r, show ((b + h + g : Nat) : Int) = (b : Int) + h + g by omega]; omega
        rw [this]
        exact ih (k + 1) (by omega) (by omega)
theorem near_line (f : Nat → Nat) (h g b : Nat) (y : Int) (hy : y < -30) : ((b : Int) + g) * (-30 - y) * (sumN f 17 : Nat) + sumZ (fC f h g b (-30)) 17 = nearZ f h g b y := by
  rw [nearZ, ← sumZ_nat, ← sumZ_mul, ← sumZ_add]
  apply sumZ_congr
  intro i _
  rw [fC, fC, tC, tC, if_neg (by omega), if_neg (by omega), show ((b + h + g : Nat) : Int) = (b : Int) + h + g by omega]
  have e1 : ((b : Int) + g) * (-30 - y) * (f i : Int) = (f i : Int) * (((b : Int) + g) * (-30 - y)) := Int.mul_comm _ _
  rw [e1, ← Int.mul_add]
  congr 1
  have e2 : ((b : Int) + h + g) * ((i : Int) - -30) = ((b : Int) + g) * ((i : Int) - -30) + (h : Int) * ((i : Int) - -30) := by rw [← Int.add_mul]; congr 1; omega
  have e3 : ((b : Int) + h + g) * ((i : Int) - y) = ((b : Int) + g) * ((i : Int) - y) + (h : Int) * ((i : Int) - y) := by rw [← Int.add_mul]; congr 1; omega
  have e4 : ((b : Int) + g) * ((i : Int) - y) = ((b : Int) + g) * (-30 - y) + ((b : Int) + g) * ((i : Int) - -30) := by rw [← Int.mul_add]; congr 1; omega
  have e5 : (h : Int) * (-30 - (i : Int)) + (h : Int) * ((i : Int) - -30) = 0 := by rw [← Int.mul_add, show -30 - (i : Int) + ((i : Int) - -30) = 0 by omega, Int.mul_zero]
  have e6 : (h : Int) * (y - (i : Int)) + (h : Int) * ((i : Int) - y) = 0 := by rw [← Int.mul_add, show y - (i : Int) + ((i : Int) - y) = 0 by omega, Int.mul_zero]
  rw [e2, e3, e4]
  omega
theorem m_near (n : Nat) (hn : 100 ≤ n) (f gg : Nat → Nat) (h g b : Nat) (hf : ∀ x, 17 ≤ x → f x = 0) (st : St) (H : LvM st f gg h g b) (y : Int) (hy1 : -42 ≤ y) (hy2 : y ≤ 30) : fX11_near n (lZ y) st = some (lZ (nearZ f h g b y), st) := by
  have cut : ∀ z, sumZ (fC f h g b z) 25 = sumZ (fC f h g b z) 17 := fun z => sumZ_cut (N := 17) 25 (by decide) (fun s h1 _ => by rw [fC, hf s h1]; exact Int.zero_mul _)
  by_cases c : -30 ≤ y
  · have hc : (-30 : Int64) ≤ lZ y := by rw [show (-30 : Int64) = lZ (-30) from by decide]; exact (lZ_le (by omega) (by omega)).mpr c
    simp only [fX11_near, fX11_near_s0, if_pos hc, fX11_near_s14, fX11_near_s15, fX11_near_s47, fX11_near_s48]
    have e := m_near53 n f gg h g b st H 0 y c hy2 n 0 (by omega) (by omega)
    rw [cut, Int.zero_add, Int.zero_add] at e
    exact e
  · have hc : ¬ (-30 : Int64) ≤ lZ y := by rw [show (-30 : Int64) = lZ (-30) from by decide]; exact fun w => c ((lZ_le (by omega) (by omega)).mp w)
    have ea := m_allN n hn f hf st H.2.2.2.1
    simp only [fX11_near, fX11_near_s0, if_neg hc, fX11_near_s8, fX11_near_s15, fX11_near_s24, ea, Option.bind_some, fX11_near_s43, fX11_near_s48, H.2.1, H.2.2.1]
    have e := m_near53 n f gg h g b st H (((b : Int) + g) * (-30 - y) * (sumN f 17 : Nat)) (-30) (by omega) (by omega) n 0 (by omega) (by omega)
    rw [cut, near_line f h g b y (by omega)] at e
    rw [← lZ_nat b, ← lZ_nat g, ← lZ_nat (sumN f 17), show (-30 : Int64) = lZ (-30) from by decide, lZ_add, lZ_sub, lZ_mul, lZ_mul]
    rw [show sumZ (fC f h g b (-30)) 0 = 0 from rfl, Int.add_zero] at e
    exact e
theorem m_nearLevel (n : Nat) (hn : 100 ≤ n) (f gg : Nat → Nat) (h g b : Nat) (hf : ∀ x, 17 ≤ x → f x = 0) (st : St) (H : LvM st f gg h g b) : ∀ (j k : Nat), 1 ≤ k → k ≤ 31 → 31 - k < j → fX11_nearLevel_L4 n j (nI (bestN (fun i => lZ (nearZ f h g b (i : Int))) (k - 1))) (nI k) st = some (nI (bestN (fun i => lZ (nearZ f h g b (i : Int))) 30), st) := by
  intro j
  induction j with
  | zero => intro k _ _ hj; omega
  | succ j ih =>
    intro k h1 hk hj
    simp only [fX11_nearLevel_L4, fX11_nearLevel_s4]
    by_cases q : k = 31
    · subst q
      rw [if_pos (show (30 : Int32) < nI 31 by decide)]
      rfl
    · rw [if_neg (show ¬ (30 : Int32) < nI k from nI_nlt (a := 30) (by omega) (by decide))]
      have hbl := bestN_le (fun i => lZ (nearZ f h g b (i : Int))) (k - 1)
      have e1 : fX11_near n (nI k).toInt64 st = some (lZ (nearZ f h g b (k : Int)), st) := by
        rw [nI_l (by omega), ← lZ_nat]; exact m_near n hn f gg h g b hf st H (k : Int) (by omega) (by omega)
      have e2 : fX11_near n (nI (bestN (fun i => lZ (nearZ f h g b (i : Int))) (k - 1))).toInt64 st = some (lZ (nearZ f h g b (bestN (fun i => lZ (nearZ f h g b (i : Int))) (k - 1) : Nat)), st) := by
        rw [nI_l (by omega), ← lZ_nat]; exact m_near n hn f gg h g b hf st H _ (by omega) (by omega)
      simp only [fX11_nearLevel_s10, e1, Option.bind_some, fX11_nearLevel_s16, e2, fX11_nearLevel_s22, fX11_nearLevel_s30, fX11_nearLevel_s26, fX11_nearLevel_s31, nI_1]
      have hk1 : k = (k - 1) + 1 := by omega
      have ih' := ih (k + 1) (by omega) (by omega) (by omega)
      rw [show k + 1 - 1 = k by omega] at ih'
      by_cases c : lZ (nearZ f h g b (bestN (fun i => lZ (nearZ f h g b (i : Int))) (k - 1) : Nat)) ≤ lZ (nearZ f h g b (k : Int))
      · have e3 : bestN (fun i => lZ (nearZ f h g b (i : Int))) k = bestN (fun i => lZ (nearZ f h g b (i : Int))) (k - 1) := by
          conv => lhs; rw [hk1, bestN]
          rw [if_pos (by rw [← hk1]; exact c)]
        rw [if_pos c]
        rw [e3] at ih'
        exact ih'
      · have e3 : bestN (fun i => lZ (nearZ f h g b (i : Int))) k = k := by
          conv => lhs; rw [hk1, bestN]
          rw [if_neg (by rw [← hk1]; exact c)]; omega
        rw [if_neg c]
        rw [e3] at ih'
        exact ih'
theorem m_far11 (n : Nat) (hn : 100 ≤ n) (f gg : Nat → Nat) (h g b nr : Nat) (hf : ∀ x, 17 ≤ x → f x = 0) (hgg : ∀ x, 13 ≤ x → gg x = 0) (hgb : ∀ x, gg x < 2 ^ 63) (hnr : nr ≤ 30) (st : St) (H : LvM st f gg h g b) (y : Int) (hy1 : -30 ≤ y) (hy2 : y ≤ 30) : ∀ (j k : Nat), k ≤ 25 → 25 - k < j → fX11_far_L11 n j (iZ y) (nI nr) (lZ (sumZ (fK f gg h g b nr y) k)) (lN (sumN f 17)) (nI k) st = some (lZ (sumZ (fK f gg h g b nr y) 25), st) := by
  intro j
  induction j with
  | zero => intro k _ hj; omega
  | succ j ih =>
    intro k hk hj
    simp only [fX11_far_L11, fX11_far_s11]
    by_cases q : k = 25
    · subst q
      rw [if_pos (show (25 : Int32) ≤ nI 25 by decide)]
      rfl
    · rw [if_neg (show ¬ (25 : Int32) ≤ nI k from nI_ge (b := 25) (by omega) (by decide))]
      have i1 : (25 : Int32) + nI k = nI (25 + k) := by rw [show (25 : Int32) = nI 25 from rfl, nI_add]
      simp only [fX11_far_s18, i1, inb_nI (show 25 + k < 50 by omega) (by decide), nI_clamp (show 25 + k < 2 ^ 31 by omega), if_true, H.2.2.2.2 k (by omega)]
      by_cases z : gg k = 0
      · rw [if_pos (by rw [z]; decide)]
        simp only [fX11_far_s83, nI_1]
        have : sumZ (fK f gg h g b nr y) (k + 1) = sumZ (fK f gg h g b nr y) k := by rw [sumZ, fK, z]; simp
        rw [← this]
        exact ih (k + 1) (by omega) (by omega)
      · have hk13 : k < 13 := Nat.lt_of_not_le (fun w => z (hgg k w))
        rw [if_neg (show ¬ lN (gg k) ≤ 0 from fun w => z (by have := (pk_lLE (hgb k) (show 0 < 2 ^ 63 by decide)).mp w; omega))]
        have d0 : iZ y - nI k = iZ (y - k) := by rw [← iZ_nat, iZ_sub]
        have d1 : (iZ (y - k)).toInt64 = lZ (y - k) := iZ_l (by omega)
        simp only [fX11_far_s33, i1, inb_nI (show 25 + k < 50 by omega) (by decide), nI_clamp (show 25 + k < 2 ^ 31 by omega), if_true, H.2.2.2.2 k (by omega), d0, d1, H.2.1]
        have tail : ∀ z : Int, -42 ≤ z → z ≤ 30 → z = (if y - k < (nr : Int) then y - k else (nr : Int)) → fX11_far_s76 n (fX11_far_L11 n j) (iZ y) (nI nr) (lN (sumN f 17)) (nI k) (lZ (sumZ (fK f gg h g b nr y) k)) (lN (gg k)) (lN g * lZ (y - k) * lN (sumN f 17)) (lZ z) st = some (lZ (sumZ (fK f gg h g b nr y) 25), st) := by
          intro z hz1 hz2 hz
          simp only [fX11_far_s76, m_near n hn f gg h g b hf st H z hz1 hz2, Option.bind_some, fX11_far_s79, fX11_far_s83, nI_1]
          have ih' := ih (k + 1) (by omega) (by omega)
          rw [sumZ, fK, ← hz] at ih'
          rw [← lZ_nat g, ← lZ_nat (gg k)]
          rw [← lZ_nat (sumN f 17)] at ih' ⊢
          rw [lZ_mul, lZ_mul, lZ_add, lZ_mul, lZ_add]
          exact ih'
        by_cases c : y - k < (nr : Int)
        · rw [if_neg (show ¬ nI nr ≤ iZ (y - k) from by rw [← iZ_nat, iZ_le (by omega) (by omega)]; omega)]
          simp only [fX11_far_s66, d0, d1]
          exact tail (y - k) (by omega) (by omega) (by rw [if_pos c])
        · rw [if_pos (show nI nr ≤ iZ (y - k) from by rw [← iZ_nat, iZ_le (by omega) (by omega)]; omega)]
          simp only [fX11_far_s74]
          rw [nI_l (by omega), ← lZ_nat nr]
          exact tail (nr : Int) (by omega) (by omega) (by rw [if_neg c])
theorem m_far (n : Nat) (hn : 100 ≤ n) (f gg : Nat → Nat) (h g b nr : Nat) (hf : ∀ x, 17 ≤ x → f x = 0) (hgg : ∀ x, 13 ≤ x → gg x = 0) (hgb : ∀ x, gg x < 2 ^ 63) (hnr : nr ≤ 30) (st : St) (H : LvM st f gg h g b) (y : Int) (hy1 : -30 ≤ y) (hy2 : y ≤ 30) : fX11_far n (iZ y) (nI nr) st = some (lZ (farZ f gg h g b nr y), st) := by
  simp only [fX11_far, fX11_far_s0, m_allN n hn f hf st H.2.2.2.1, Option.bind_some, fX11_far_s6]
  have e := m_far11 n hn f gg h g b nr hf hgg hgb hnr st H y hy1 hy2 n 0 (by omega) (by omega)
  rw [sumZ_cut (N := 13) 25 (by decide) (fun s h1 _ => by rw [fK, hgg s h1]; exact Int.zero_mul _)] at e
  exact e
theorem m_level52 (n : Nat) (hn : 100 ≤ n) (f gg : Nat → Nat) (h g b nr : Nat) (hf : ∀ x, 17 ≤ x → f x = 0) (hgg : ∀ x, 13 ≤ x → gg x = 0) (hgb : ∀ x, gg x < 2 ^ 63) (hnr : nr ≤ 30) (st : St) (H : LvM st f gg h g b) : ∀ (j k : Nat), 1 ≤ k → k ≤ 31 → 31 - k < j → fX11_level_L52 n j (nI nr) (nI (bestN (fun i => lZ (farZ f gg h g b nr (i : Int))) (k - 1))) (lZ (farZ f gg h g b nr (bestN (fun i => lZ (farZ f gg h g b nr (i : Int))) (k - 1) : Nat))) (nI k) st = some (nI (bestN (fun i => lZ (farZ f gg h g b nr (i : Int))) 30), st) := by
  intro j
  induction j with
  | zero => intro k _ _ hj; omega
  | succ j ih =>
    intro k h1 hk hj
    simp only [fX11_level_L52, fX11_level_s52]
    by_cases q : k = 31
    · subst q
      rw [if_pos (show (30 : Int32) < nI 31 by decide)]
      rfl
    · rw [if_neg (show ¬ (30 : Int32) < nI k from nI_nlt (a := 30) (by omega) (by decide))]
      have e := m_far n hn f gg h g b nr hf hgg hgb hnr st H (k : Int) (by omega) (by omega)
      rw [iZ_nat] at e
      simp only [fX11_level_s59, e, Option.bind_some, fX11_level_s67, fX11_level_s85, fX11_level_s77, nI_1]
      have hk1 : k = (k - 1) + 1 := by omega
      have ih' := ih (k + 1) (by omega) (by omega) (by omega)
      rw [show k + 1 - 1 = k by omega] at ih'
      by_cases c : lZ (farZ f gg h g b nr (bestN (fun i => lZ (farZ f gg h g b nr (i : Int))) (k - 1) : Nat)) ≤ lZ (farZ f gg h g b nr (k : Int))
      · have e3 : bestN (fun i => lZ (farZ f gg h g b nr (i : Int))) k = bestN (fun i => lZ (farZ f gg h g b nr (i : Int))) (k - 1) := by
          conv => lhs; rw [hk1, bestN]
          rw [if_pos (by rw [← hk1]; exact c)]
        rw [if_pos c]
        rw [e3] at ih'
        exact ih'
      · have e3 : bestN (fun i => lZ (farZ f gg h g b nr (i : Int))) k = k := by
          conv => lhs; rw [hk1, bestN]
          rw [if_neg (by rw [← hk1]; exact c)]; omega
        rw [if_neg c]
        rw [e3] at ih'
        exact ih'
