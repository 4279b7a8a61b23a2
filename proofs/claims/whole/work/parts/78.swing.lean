/-! ===== swing, gain ===== -/
/-- the swing of the m numbers behind a -/
def sq1 (h : Nat → Nat) (a m : Nat) : Nat := sumN (fun i => h (a + i)) m
def sq2 (h : Nat → Nat) (a m : Nat) : Nat := sumN (fun i => h (a + i) * h (a + i)) m
theorem two_mul_le (x y : Nat) : 2 * (x * y) ≤ x * x + y * y := by
  rcases Nat.le_total x y with h | h
  · obtain ⟨d, rfl⟩ : ∃ d, y = x + d := ⟨y - x, by omega⟩
    have : 2 * (x * (x + d)) + d * d = x * x + (x + d) * (x + d) := by
      simp only [Nat.mul_add, Nat.add_mul, Nat.mul_comm d x]; omega
    omega
  · obtain ⟨d, rfl⟩ : ∃ d, x = y + d := ⟨x - y, by omega⟩
    have : 2 * ((y + d) * y) + d * d = (y + d) * (y + d) + y * y := by
      simp only [Nat.mul_add, Nat.add_mul, Nat.mul_comm d y]; omega
    omega
theorem sq_x (h : Nat → Nat) (a x : Nat) : ∀ m, 2 * (x * sq1 h a m) ≤ m * (x * x) + sq2 h a m := by
  intro m
  induction m with
  | zero => simp [sq1, sq2, sumN]
  | succ m ih =>
    have := two_mul_le x (h (a + m))
    show 2 * (x * (sq1 h a m + h (a + m))) ≤ (m + 1) * (x * x) + (sq2 h a m + h (a + m) * h (a + m))
    rw [Nat.mul_add, Nat.mul_add, Nat.add_mul]
    omega
theorem sq_ok (h : Nat → Nat) (a : Nat) : ∀ m, sq1 h a m * sq1 h a m ≤ m * sq2 h a m := by
  intro m
  induction m with
  | zero => simp [sq1, sq2, sumN]
  | succ m ih =>
    have := sq_x h a (h (a + m)) m
    show (sq1 h a m + h (a + m)) * (sq1 h a m + h (a + m)) ≤ (m + 1) * (sq2 h a m + h (a + m) * h (a + m))
    simp only [Nat.mul_add, Nat.add_mul, Nat.one_mul]
    rw [Nat.mul_comm (sq1 h a m) (h (a + m))]
    omega
def spN (h : Nat → Nat) (a m : Nat) : Nat := m * sq2 h a m - sq1 h a m * sq1 h a m
theorem spN_J (h : Nat → Nat) (a m : Nat) (hm : m < 2 ^ 31) : (nI m).toInt64 * lN (sq2 h a m) - lN (sq1 h a m) * lN (sq1 h a m) = lN (spN h a m) := by
  rw [nI_l hm, lN_mul, lN_mul, lN_sub (sq_ok h a m)]; rfl
theorem spN_bd (h : Nat → Nat) (a m : Nat) (hm : m ≤ 40) (hb : ∀ u, h u ≤ 79992) : spN h a m ≤ 20000000000000 := by
  have h1 : sq2 h a m ≤ m * (79992 * 79992) := sumN_bd m (fun i _ => Nat.mul_le_mul (hb _) (hb _))
  have h2 : m * sq2 h a m ≤ 40 * (40 * (79992 * 79992)) := Nat.mul_le_mul hm (Nat.le_trans h1 (Nat.mul_le_mul hm (Nat.le_refl _)))
  unfold spN
  omega
theorem i40 (s u : Nat) (hu : u < 2 ^ 31) : nI s * 40 + (nI u - nI u / 40 * 40) = nI (40 * s + u % 40) := by
  rw [show nI u - nI u / 40 * 40 = nI (u % 40) from pk_rem (d := 40) hu (by decide) (by decide), show (40 : Int32) = nI 40 from rfl, pk_mul, nI_add, Nat.mul_comm]
theorem i40' (s u : Nat) (hu : u < 2 ^ 31) : 40 * nI s + (nI u - nI u / 40 * 40) = nI (40 * s + u % 40) := by
  rw [show nI u - nI u / 40 * 40 = nI (u % 40) from pk_rem (d := 40) hu (by decide) (by decide), show (40 : Int32) = nI 40 from rfl, pk_mul, nI_add]
theorem c_spread (n q s m w : Nat) (st : St) (h : Nat → Nat) (hs : s < 8) (hm : m ≤ 40) (hmw : m ≤ w) (hw : w ≤ 400) (hn : 100 ≤ n) (hb : ∀ u, h u ≤ 79992) (hr : ∀ u, u < w → w ≤ u + m → st.1 q (40 * s + u % 40) = nI (h u)) : fX5_spread_s15 n (nI s) (nI m) (nI w) q st = some (lN (spN h (w - m) m), st) := by
  have loop : ∀ (k i : Nat), i ≤ m → m - i < k → fX5_spread_L33 n k (nI s) (nI m) (nI w) q (lN (sq1 h (w - m) i)) (lN (sq2 h (w - m) i)) (nI (w - m + i)) st = some (lN (spN h (w - m) m), st) := by
    intro k
    induction k with
    | zero => intro i _ h; omega
    | succ k ih =>
      intro i hi hk
      simp only [fX5_spread_L33, fX5_spread_s33]
      by_cases z : i = m
      · subst z
        rw [if_pos (nI_le (by omega) (by omega))]
        simp only [fX5_spread_s79]
        rw [spN_J _ _ _ (by omega)]
      · rw [if_neg (nI_ge (by omega) (by omega))]
        have hbi := hb (w - m + i)
        simp only [fX5_spread_s40, i40 s (w - m + i) (by omega), inb_nI (show 40 * s + (w - m + i) % 40 < 320 by omega) (by decide), nI_clamp (show 40 * s + (w - m + i) % 40 < 2 ^ 31 by omega), if_true, hr (w - m + i) (by omega) (by omega), nI_l (show h (w - m + i) < 2 ^ 31 by omega), lN_mul, lN_add, nI_1]
        exact ih (i + 1) (by omega) (by omega)
  simp only [fX5_spread_s15]
  rw [pk_sub hmw]
  have e : (if 0 < nI (w - m) then nI (w - m) else 0) = nI (w - m) := by
    by_cases z : w - m = 0
    · rw [z]; rfl
    · rw [if_pos (show (0 : Int32) < nI (w - m) from nI_lt (a := 0) (by omega) (by omega))]
  rw [e]
  exact loop n 0 (by omega) (by omega)
theorem m_spread (n s m w : Nat) (a : Int32) (q : Nat) (hq : (a = 0 ∧ q = 149) ∨ (a = 1 ∧ q = 150)) (st : St) (h : Nat → Nat) (hs : s < 8) (hm : m ≤ 40) (hmw : m ≤ w) (hw : w ≤ 400) (hn : 100 ≤ n) (ew : st.1 130 12 = nI w) (hr : ∀ u, u < w → w ≤ u + m → st.2 q (40 * s + u % 40) = lN (h u)) : fX11_swing_s44 n (nI s) a (nI m) st = some (lN (spN h (w - m) m), st) := by
  have loop : ∀ (k i : Nat), i ≤ m → m - i < k → fX11_swing_L58 n k (nI s) a (nI m) (lN (sq1 h (w - m) i)) (lN (sq2 h (w - m) i)) (nI (w - m + i)) st = some (lN (spN h (w - m) m), st) := by
    intro k
    induction k with
    | zero => intro i _ h; omega
    | succ k ih =>
      intro i hi hk
      simp only [fX11_swing_L58, fX11_swing_s58, ew]
      by_cases z : i = m
      · subst z
        rw [if_pos (nI_le (by omega) (by omega))]
        simp only [fX11_swing_s129]
        rw [spN_J _ _ _ (by omega)]
      · rw [if_neg (nI_ge (by omega) (by omega))]
        have hrr := hr (w - m + i) (by omega) (by omega)
        have key := ih (i + 1) (by omega) (by omega)
        simp only [fX11_swing_s67, fX11_swing_s71, fX11_swing_s89, fX11_swing_s104, i40' s (w - m + i) (by omega), inb_nI (show 40 * s + (w - m + i) % 40 < 320 by omega) (by decide), nI_clamp (show 40 * s + (w - m + i) % 40 < 2 ^ 31 by omega), if_true]
        rcases hq with ⟨rfl, rfl⟩ | ⟨rfl, rfl⟩
        · rw [if_pos rfl, hrr, lN_mul, lN_add, lN_add, nI_1]; exact key
        · rw [if_neg (by decide), hrr, lN_mul, lN_add, lN_add, nI_1]; exact key
  simp only [fX11_swing_s44, ew]
  rw [pk_sub hmw]
  exact loop n 0 (by omega) (by omega)
/-- what swing answers -/
theorem sw_both (n : Nat) (hn : 100 ≤ n) {st : St} (hI : Inv st) (s a m : Int32) :
    (∃ v, v ≤ 20000000000000 ∧ fX10_swing n s a m st = some (lN v, st) ∧ (∀ st' : St, st'.1 130 0 = st.1 130 0 → st'.1 130 12 = st.1 130 12 → st'.2 149 = st.2 149 → st'.2 150 = st.2 150 → fX11_swing n s a m st' = some (lN v, st')) ∧ fX10_swings n s m st = some (1, st) ∧ (0 ≤ a ∧ a ≤ 1) ∧ fX5_spread n s a m (st.1 53 10) st = some (lN v, st)) ∨
    (fX10_swing n s a m st = some (-9223372036854775808, st) ∧ fX11_swing n s a m st = some (-9223372036854775808, st) ∧ (fX10_swings n s m st = some (0, st) ∨ ¬ (0 ≤ a ∧ a ≤ 1))) := by
  obtain ⟨N, R, hP, hR, hT, hF, hTo, hL, hV, hW, hLe⟩ := id hI
  obtain ⟨h8, e9, e0, hrows, hal, hfs, hsh, hst⟩ := id hP
  obtain ⟨w, fs, md, sd, stk, slt, od, osh, snt, orH, snH, hw, hfs0, hN0, hFl, hPa⟩ := id hF
  obtain ⟨⟨f1, f2, f3, f4, f5, f6⟩, -⟩ := id hFl
  by_cases h : 0 ≤ s ∧ s < nI N
  · obtain ⟨j, hj, rfl⟩ := st_of (by omega) h
    by_cases hm : 2 ≤ m ∧ m ≤ 40
    · obtain ⟨k, hk, rfl⟩ := nI_of2 (M := 40) (n := 40) rfl (le_of_nlt32.mpr (Int32.le_trans (by decide) hm.1)) hm.2
      by_cases hkw : k ≤ w
      · have es : fX10_swings n (nI j) (nI k) st = some (1, st) := by
          simp only [fX10_swings, fX10_swings_s0, phas, Option.bind_some, e9, b1_pos h, fX10_swings_s8, fX10_swings_s11, pw, b1_pos hm, fX10_swings_s18, fX10_swings_s21, f1]
          rw [if_neg (show ¬ (1 : Int32) = 0 by decide), if_neg (show ¬ (1 : Int32) = 0 by decide), if_neg (nI_nlt hkw (by omega))]
          rfl
        by_cases ha : 0 ≤ a ∧ a ≤ 1
        · left
          have hq : (a = 0 ∨ a = 1) := by
            obtain ⟨i, hi, rfl⟩ := nI_of2 (M := 1) (n := 1) rfl (le_of_nlt32.mpr ha.1) ha.2
            match i, hi with
            | 0, _ => exact Or.inl rfl
            | 1, _ => exact Or.inr rfl
          have ec : fX10_swing n (nI j) a (nI k) st = (fX5_spread n (nI j) a (nI k) (nI w) st).bind (fun q => fX10_swing_s35 n q.1 q.2) := by
            simp only [fX10_swing, fX10_swing_s0, es, Option.bind_some, fX10_swing_s6, fX10_swing_s9, pw, b1_pos ha, fX10_swing_s15, fX10_swing_s18, f1]
            rfl
          have em : ∀ st' : St, st'.1 130 0 = st.1 130 0 → st'.1 130 12 = st.1 130 12 → fX11_swing n (nI j) a (nI k) st' = fX11_swing_s44 n (nI j) a (nI k) st' := by
            intro st' w0 w12
            simp only [fX11_swing, fX11_swing_s0, pstage n (nI j) st' (w0.trans e0) h8, Option.bind_some, b1_pos h, fX11_swing_s5, fX11_swing_s8, pinl (lo := 0) (hi := 1) (lo' := 0) (hi' := 1) (by decide) (by decide), b1_pos ha, fX11_swing_s15, fX11_swing_s18, pinl (lo := 2) (hi := 40) (lo' := 2) (hi' := 40) (by decide) (by decide), b1_pos hm, fX11_swing_s29, fX11_swing_s32, w12, f2]
            rw [if_neg (show ¬ (1 : Int32) = 0 by decide), if_neg (show ¬ (1 : Int32) = 0 by decide), if_neg (show ¬ (1 : Int32) = 0 by decide), if_pos (nI_le hkw (by omega))]
          rcases hq with rfl | rfl
          · have e5 : fX5_spread n (nI j) 0 (nI k) (nI w) st = some (lN (spN (fun u => snH u j) (w - k) k), st) := by
              simp only [fX5_spread, fX5_spread_s0, fX5_spread_s4]
              rw [if_pos trivial]
              exact c_spread n 22 j k w st (fun u => snH u j) (by omega) hk hkw hw hn (fun u => flow_sn hFl u j) (fun u h1 h2 => (hPa j u (by omega) h1 (by omega)).1)
            refine ⟨_, spN_bd _ (w - k) _ hk (fun u => flow_sn hFl u j), ?_, ?_, es, ha, ?_⟩
            · rw [ec, e5]; rfl
            · intro st' w0 w12 w1 w2
              rw [em st' w0 w12]
              exact m_spread n j k w 0 149 (Or.inl ⟨rfl, rfl⟩) st' (fun u => snH u j) (by omega) hk hkw hw hn (w12.trans f2) (fun u h1 h2 => by rw [w1]; exact (hPa j u (by omega) h1 (by omega)).2.2.1)
            · rw [f1]; exact e5
          · have hob : ∀ u, orH u j ≤ 79992 := fun u => Nat.le_trans (flow_or hFl u j) (by decide)
            have e5 : fX5_spread n (nI j) 1 (nI k) (nI w) st = some (lN (spN (fun u => orH u j) (w - k) k), st) := by
              simp only [fX5_spread, fX5_spread_s0, fX5_spread_s11]
              rw [if_neg (by decide)]
              exact c_spread n 23 j k w st (fun u => orH u j) (by omega) hk hkw hw hn hob (fun u h1 h2 => (hPa j u (by omega) h1 (by omega)).2.1)
            refine ⟨_, spN_bd _ (w - k) _ hk hob, ?_, ?_, es, ha, ?_⟩
            · rw [ec, e5]; rfl
            · intro st' w0 w12 w1 w2
              rw [em st' w0 w12]
              exact m_spread n j k w 1 150 (Or.inr ⟨rfl, rfl⟩) st' (fun u => orH u j) (by omega) hk hkw hw hn (w12.trans f2) (fun u h1 h2 => by rw [w2]; exact (hPa j u (by omega) h1 (by omega)).2.2.2)
            · rw [f1]; exact e5
        · right
          refine ⟨?_, ?_, Or.inr ha⟩
          · simp only [fX10_swing, fX10_swing_s0, es, Option.bind_some, fX10_swing_s6, fX10_swing_s9, pw, b1_neg ha, fX10_swing_s15, fX10_swing_s38]
            rfl
          · simp only [fX11_swing, fX11_swing_s0, pstage n (nI j) st e0 h8, Option.bind_some, b1_pos h, fX11_swing_s5, fX11_swing_s8, pinl (lo := 0) (hi := 1) (lo' := 0) (hi' := 1) (by decide) (by decide), b1_neg ha, fX11_swing_s15, fX11_swing_s40]
            rfl
      · right
        have es : fX10_swings n (nI j) (nI k) st = some (0, st) := by
          simp only [fX10_swings, fX10_swings_s0, phas, Option.bind_some, e9, b1_pos h, fX10_swings_s8, fX10_swings_s11, pw, b1_pos hm, fX10_swings_s18, fX10_swings_s21, f1]
          rw [if_neg (show ¬ (1 : Int32) = 0 by decide), if_neg (show ¬ (1 : Int32) = 0 by decide), if_pos (nI_lt (by omega) (by omega))]
          rfl
        refine ⟨?_, ?_, Or.inl es⟩
        · simp only [fX10_swing, fX10_swing_s0, es, Option.bind_some, fX10_swing_s6, fX10_swing_s38]
          rfl
        · simp only [fX11_swing, fX11_swing_s0, pstage n (nI j) st e0 h8, Option.bind_some, b1_pos h, fX11_swing_s5, fX11_swing_s8, pin, fX11_swing_s15, fX11_swing_s18, pinl (lo := 2) (hi := 40) (lo' := 2) (hi' := 40) (by decide) (by decide), fX11_swing_s29, fX11_swing_s32, fX11_swing_s40, f2]
          rw [if_neg (show ¬ nI k ≤ nI w from nI_ge (by omega) (by omega))]
          simp only [ite_self]
    · right
      have es : fX10_swings n (nI j) m st = some (0, st) := by
        simp only [fX10_swings, fX10_swings_s0, phas, Option.bind_some, e9, b1_pos h, fX10_swings_s8, fX10_swings_s11, pw, b1_neg hm, fX10_swings_s18]
        rfl
      refine ⟨?_, ?_, Or.inl es⟩
      · simp only [fX10_swing, fX10_swing_s0, es, Option.bind_some, fX10_swing_s6, fX10_swing_s38]
        rfl
      · simp only [fX11_swing, fX11_swing_s0, pstage n (nI j) st e0 h8, Option.bind_some, b1_pos h, fX11_swing_s5, fX11_swing_s8, pinl (lo := 2) (hi := 40) (lo' := 2) (hi' := 40) (by decide) (by decide), b1_neg hm, pin, fX11_swing_s15, fX11_swing_s18, fX11_swing_s29, fX11_swing_s40]
        simp only [if_true, ite_self]
  · right
    have es : fX10_swings n s m st = some (0, st) := by
      simp only [fX10_swings, fX10_swings_s0, phas, Option.bind_some, e9, b1_neg h, fX10_swings_s8]
      rfl
    refine ⟨?_, ?_, Or.inl es⟩
    · simp only [fX10_swing, fX10_swing_s0, es, Option.bind_some, fX10_swing_s6, fX10_swing_s38]
      rfl
    · simp only [fX11_swing, fX11_swing_s0, pstage n s st e0 h8, Option.bind_some, b1_neg h, fX11_swing_s5, fX11_swing_s40]
      rfl
theorem SPswing (n : Nat) (hn : 100 ≤ n) : SP_swing n Inv := by
  intro s a m st hI
  rcases sw_both n hn hI s a m with ⟨v, -, h1, h2, -⟩ | ⟨h1, h2, -⟩
  · exact ⟨_, st, st, h1, h2 st rfl rfl rfl rfl, hI⟩
  · exact ⟨_, st, st, h1, h2, hI⟩
