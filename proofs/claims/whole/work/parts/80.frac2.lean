/-! ===== gain; the reference's fractions ===== -/
def tellF (F : Fq) (a : Int32) : Int64 := match F with
  | none => -9223372036854775807
  | some x => if a = 0 then lZ x.1 else lN x.2
theorem c_tell (n b : Nat) (a : Int32) (st : St) {F : Fq} (h : Fr st b F) : fX2_tell n b a st = some (tellF F a, st) := by
  simp only [fX2_tell, fX2_tell_s0, fX2_tell_s13, fX2_tell_s7, fX2_tell_s17, fX2_tell_s24, fX2_tell_s28]
  cases F with
  | none => rw [if_neg (show ¬ st.1 b 2 = 0 by rw [h]; decide)]; rfl
  | some x =>
    rw [if_pos h.1]
    unfold tellF
    by_cases q : a = 0
    · rw [if_pos q, h.2.1]; simp only [if_pos q]
    · rw [if_neg q, h.2.2]; simp only [if_neg q]
theorem SPgain (n : Nat) (hn : 1000 ≤ n) : SP_gain n Inv := by
  intro s m a st hI
  suffices hq : ∃ r st1, fX10_gain n s m a st = some (r, st1) ∧ fX11_gain n s m a st1 = some (r, st1) by
    obtain ⟨r, st1, h1, h2⟩ := hq
    exact ⟨r, st1, st1, h1, h2, hI.ess (Ess.of (zX10_gain n s m a st _ h1) rfl rfl)⟩
  rcases sw_both n (by omega) hI s 0 m with ⟨v, hv, -, h2, h3, -, h4⟩ | ⟨-, h2, h3⟩
  · rcases sw_both n (by omega) hI s 1 m with ⟨u, hu, -, g2, g3, -, g4⟩ | ⟨-, g2, g3⟩
    · have nv : ¬ lN v = -9223372036854775808 := by
        intro w
        have := congrArg Int64.toInt w
        rw [pk_lT (by omega)] at this
        have e : (-9223372036854775808 : Int64).toInt = -9223372036854775808 := rfl
        omega
      by_cases ha : 0 ≤ a ∧ a ≤ 1
      · by_cases z : v = 0
        · subst z
          refine ⟨-9223372036854775808, st, ?_, ?_⟩
          · simp only [fX10_gain, fX10_gain_s0, h3, Option.bind_some, fX10_gain_s6, fX10_gain_s9, pw, b1_pos ha, fX10_gain_s15, fX10_gain_s22, h4, fX10_gain_s39, fX10_gain_s48]
            rfl
          · simp only [fX11_gain, fX11_gain_s0, h2 st rfl rfl rfl rfl, Option.bind_some, fX11_gain_s7, fX11_gain_s18, fX11_gain_s35]
            rfl
        · have v0 : ¬ lN v = 0 := fun w => z ((pk_lEQ (by omega) (show 0 < 2 ^ 63 by decide)).mp w)
          obtain ⟨st1, e1, e2, e3⟩ := c_become n 36 hn st (p := (u : Int)) (q := v) (by omega) (by omega) (by omega)
          have hI1 : Inv st1 := hI.ess (Ess.of (LI := [(36, some 2)]) (LJ := [(36, some 0), (36, some 1)]) e3 rfl rfl)
          have x0 : fX11_swing n s 0 m st1 = some (lN v, st1) ∧ fX11_swing n s 1 m st1 = some (lN u, st1) := by
            have y0 : st1.1 130 0 = st.1 130 0 := e3.1 130 0 (okL_fld (rows := []) (flds := [(130, 0)]) (L := [(36, some 2)]) rfl (p := (130, 0)) (by decide))
            have y1 : st1.1 130 12 = st.1 130 12 := e3.1 130 12 (okL_fld (rows := []) (flds := [(130, 12)]) (L := [(36, some 2)]) rfl (p := (130, 12)) (by decide))
            have y2 : st1.2 149 = st.2 149 := funext fun k => e3.2 149 k (okL_row (rows := [149]) (flds := []) (L := [(36, some 0), (36, some 1)]) rfl (by decide))
            have y3 : st1.2 150 = st.2 150 := funext fun k => e3.2 150 k (okL_row (rows := [150]) (flds := []) (L := [(36, some 0), (36, some 1)]) rfl (by decide))
            exact ⟨h2 st1 y0 y1 y2 y3, g2 st1 y0 y1 y2 y3⟩
          refine ⟨tellF (mkF u v) a, st1, ?_, ?_⟩
          · simp only [fX10_gain, fX10_gain_s0, h3, Option.bind_some, fX10_gain_s6, fX10_gain_s9, pw, b1_pos ha, fX10_gain_s15, fX10_gain_s22, h4, fX10_gain_s39, fX10_gain_s52, g4, fX10_gain_s73, fX10_gain_s78, fX10_gain_s86]
            rw [if_neg (show ¬ (1 : Int32) = 0 by decide), if_neg (show ¬ (1 : Int32) = 0 by decide), if_neg v0, ← lZ_nat u, e1]
            simp only [Option.bind_some, c_tell n 36 a st1 e2]
          · have hg : 0 < Nat.gcd u v := Nat.gcd_pos_of_pos_right _ (by omega)
            have hg2 : Nat.gcd u v ≤ v := Nat.le_of_dvd (by omega) (Nat.gcd_dvd_right _ _)
            have ed := m_divisor n hn st1 (z := (u : Int)) (y := (v : Int)) (by omega) (by omega)
            rw [lZ_nat, lZ_nat, Int.natAbs_natCast, Int.natAbs_natCast] at ed
            have g0 : ¬ lN (Nat.gcd u v) = 0 := fun w => by have := (pk_lEQ (by omega) (show 0 < 2 ^ 63 by decide)).mp w; omega
            simp only [fX11_gain, fX11_gain_s0, x0.1, x0.2, Option.bind_some, fX11_gain_s7, fX11_gain_s18, fX11_gain_s25, pinl (lo := 0) (hi := 1) (lo' := 0) (hi' := 1) (by decide) (by decide), b1_pos ha, fX11_gain_s32, fX11_gain_s39, fX11_gain_s46, ed, fX11_gain_s55, fX11_gain_s69, fX11_gain_s87, fX11_gain_s91, fX11_gain_s99, fX11_gain_s81, fX11_gain_s104]
            rw [if_neg nv, if_neg v0, if_neg (show ¬ (1 : Int32) = 0 by decide), if_neg g0, if_neg g0, if_neg g0, if_neg g0]
            unfold mkF
            simp only [Int.natAbs_natCast]
            rw [pk_lDiv (show u < 2 ^ 63 by omega) hg (by omega), pk_lDiv (show v < 2 ^ 63 by omega) hg (by omega), ← Int.natCast_ediv, Int.natAbs_natCast]
            have b1 : u / Nat.gcd u v < 2 ^ 63 := Nat.lt_of_le_of_lt (Nat.div_le_self _ _) (by omega)
            have b2 : v / Nat.gcd u v < 2 ^ 63 := Nat.lt_of_le_of_lt (Nat.div_le_self _ _) (by omega)
            generalize u / Nat.gcd u v = x at *
            generalize v / Nat.gcd u v = y at *
            have c1 : (1000000000 < lN x) ↔ ¬ x ≤ 1000000000 := by
              rw [show (1000000000 : Int64) = lN 1000000000 from rfl, pk_lLT (by decide) b1]; omega
            have c2 : (lN y ≤ 1000000000) ↔ y ≤ 1000000000 := by
              rw [show (1000000000 : Int64) = lN 1000000000 from rfl, pk_lLE b2 (by decide)]
            by_cases k1 : x ≤ 1000000000
            · rw [if_neg (fun w => c1.mp w k1)]
              by_cases k2 : y ≤ 1000000000
              · rw [if_pos (c2.mpr k2), if_pos (⟨k1, k2⟩ : x ≤ 1000000000 ∧ y ≤ 1000000000)]
                unfold tellF
                by_cases q : a = 0
                · rw [if_pos q]; simp only [if_pos q, lZ_nat]
                · rw [if_neg q]; simp only [if_neg q]
              · rw [if_neg (fun w => k2 (c2.mp w)), if_neg (fun w => k2 w.2)]; rfl
            · rw [if_pos (c1.mpr k1), if_neg (fun w => k1 w.1)]; rfl
      · refine ⟨-9223372036854775808, st, ?_, ?_⟩
        · simp only [fX10_gain, fX10_gain_s0, h3, Option.bind_some, fX10_gain_s6, fX10_gain_s9, pw, b1_neg ha, fX10_gain_s15, fX10_gain_s18]
          rfl
        · simp only [fX11_gain, fX11_gain_s0, h2 st rfl rfl rfl rfl, Option.bind_some, fX11_gain_s7, fX11_gain_s18, fX11_gain_s25, pinl (lo := 0) (hi := 1) (lo' := 0) (hi' := 1) (by decide) (by decide), b1_neg ha, fX11_gain_s32, fX11_gain_s35]
          simp only [if_true, ite_self]
    · rcases g3 with g3 | g3
      · rw [h3] at g3; cases g3
      · exact absurd (by decide) g3
  · rcases h3 with h3 | h3
    · refine ⟨-9223372036854775808, st, ?_, ?_⟩
      · simp only [fX10_gain, fX10_gain_s0, h3, Option.bind_some, fX10_gain_s6, fX10_gain_s18]
        rfl
      · simp only [fX11_gain, fX11_gain_s0, h2, Option.bind_some, fX11_gain_s7, fX11_gain_s35]
        rfl
    · exact absurd (by decide) h3

/-! the reference's own -/
def gd0 (X : Fq) : Int × Nat := X.getD (0, 1)
theorem gd0_v {X : Fq} (h : vO X) : vF (gd0 X) := by
  cases X with
  | none => exact ⟨by decide, by decide, by decide⟩
  | some x => exact h x rfl
def MS (st : St) (X : Fq) : Prop := st.1 130 47 = (match X with | none => 1 | some _ => 0) ∧ st.2 130 45 = lZ (gd0 X).1 ∧ st.2 130 46 = lN (gd0 X).2
def wF : List (Nat × Option Nat) := [(130, some 47)]
def wG : List (Nat × Option Nat) := [(130, some 45), (130, some 46)]
theorem m_lowest (n : Nat) (hn : 1000 ≤ n) (st : St) (P : Bool) (hP : st.1 130 47 = if P = true then 0 else 1) {p : Int} {q : Nat} (hp : p.natAbs < 2 ^ 63) (hq : 1 ≤ q) (hq2 : q < 2 ^ 63) : ∃ st1, fX11_lowest n (lZ p) (lN q) st = some ((), st1) ∧ MS st1 (if P = true then mkF p q else none) ∧ Same wF wG st st1 := by
  have ed := m_divisor n hn st (z := p) (y := (q : Int)) hp (by omega)
  rw [lZ_nat, Int.natAbs_natCast] at ed
  have hg : 0 < Nat.gcd p.natAbs q := Nat.gcd_pos_of_pos_right _ (by omega)
  have hg2 : Nat.gcd p.natAbs q ≤ q := Nat.le_of_dvd (by omega) (Nat.gcd_dvd_right _ _)
  have hd : ((Nat.gcd p.natAbs q : Nat) : Int) ∣ p := Int.ofNat_dvd_left.mpr (Nat.gcd_dvd_left _ _)
  have hv := natAbs_div p _ hd
  have e3 := lZ_div hp hg (by omega) hd
  have e4 := pk_lDiv hq2 hg (show Nat.gcd p.natAbs q < 2 ^ 63 by omega)
  have hu : (p / ((Nat.gcd p.natAbs q : Nat) : Int)).natAbs < 2 ^ 63 := by rw [hv]; exact Nat.lt_of_le_of_lt (Nat.div_le_self _ _) hp
  have hw : q / Nat.gcd p.natAbs q < 2 ^ 63 := Nat.lt_of_le_of_lt (Nat.div_le_self _ _) hq2
  unfold mkF
  generalize hgg : Nat.gcd p.natAbs q = g at *
  generalize hzz : p / (g : Int) = z at *
  generalize hww : q / g = w at *
  have g0 : ¬ lN g = 0 := fun h => by have := (pk_lEQ (show g < 2 ^ 63 by omega) (show 0 < 2 ^ 63 by decide)).mp h; omega
  have e5 : fX11_lowest n (lZ p) (lN q) st = fX11_lowest_s23 n (setJ (setJ st 130 45 (lZ z)) 130 46 (lN w)) := by
    simp only [fX11_lowest, fX11_lowest_s0, ed, Option.bind_some, fX11_lowest_s5, fX11_lowest_s15]
    rw [if_neg g0, if_neg g0, e3, e4]
  obtain ⟨s1, es1⟩ : ∃ s1, s1 = setJ (setJ st 130 45 (lZ z)) 130 46 (lN w) := ⟨_, rfl⟩
  have e6 : s1.2 130 45 = lZ z := by rw [es1, sJ_k (by decide), sJ_at]
  have e7 : s1.2 130 46 = lN w := by rw [es1]; exact sJ_at
  have e8 : s1.1 130 47 = if P = true then 0 else 1 := by rw [es1]; exact hP
  have hs1 : Same wF wG st s1 := by rw [es1]; exact (same_J (Or.inr (mm2 0 rfl))).trans (same_J (Or.inr (mm2 1 rfl)))
  have bad : ∃ st1, fX11_lowest_s64 n s1 = some ((), st1) ∧ MS st1 none ∧ Same wF wG st st1 := by
    refine ⟨setJ (setJ (setI s1 130 47 1) 130 45 0) 130 46 1, ?_, ⟨show (setI s1 130 47 1).1 130 47 = 1 from sI_at, ?_, ?_⟩, hs1.trans (((same_I (Or.inr (mm2 0 rfl))).trans (same_J (Or.inr (mm2 0 rfl)))).trans (same_J (Or.inr (mm2 1 rfl))))⟩
    · simp only [fX11_lowest_s64, fX11_lowest_s69, fX11_lowest_s72, fX11_lowest_s79, fX11_lowest_s84, fX11_lowest_s89, sI_at]
      rfl
    · rw [sJ_k (by decide), sJ_at]; rfl
    · rw [sJ_at]; rfl
  have c1 : (1000000000 < lZ z) ↔ 1000000000 < z := by
    rw [show (1000000000 : Int64) = lZ 1000000000 from rfl, Int64.lt_iff_toInt_lt, lZ_ti hu, lZ_ti (by decide)]
  have c3 : (lZ z < -1000000000) ↔ z < -1000000000 := by
    rw [show (-1000000000 : Int64) = lZ (-1000000000) from rfl, Int64.lt_iff_toInt_lt, lZ_ti hu, lZ_ti (by decide)]
  have c2 : (lN w ≤ 1000000000) ↔ w ≤ 1000000000 := by
    rw [show (1000000000 : Int64) = lN 1000000000 from rfl, pk_lLE hw (by decide)]
  rw [e5, ← es1]
  simp only [fX11_lowest_s23, fX11_lowest_s31, fX11_lowest_s42, fX11_lowest_s53, e8, e6, e7]
  cases P with
  | false => exact bad
  | true =>
    simp only [if_true]
    by_cases h1 : 1000000000 < z
    · rw [if_pos (c1.mpr h1), if_neg (fun h => by omega)]; exact bad
    · rw [if_neg (fun h => h1 (c1.mp h))]
      by_cases h3 : z < -1000000000
      · rw [if_pos (c3.mpr h3), if_neg (fun h => by omega)]; exact bad
      · rw [if_neg (fun h => h3 (c3.mp h))]
        by_cases h2 : w ≤ 1000000000
        · rw [if_pos (c2.mpr h2), if_pos (⟨by omega, h2⟩ : z.natAbs ≤ 1000000000 ∧ w ≤ 1000000000)]
          refine ⟨setI s1 130 47 0, ?_, ⟨sI_at, e6, e7⟩, hs1.trans (same_I (Or.inr (mm2 0 rfl)))⟩
          simp only [fX11_lowest_s68, fX11_lowest_s69, fX11_lowest_s72, fX11_lowest_s89, sI_at]
          rfl
        · rw [if_neg (fun h => h2 (c2.mp h)), if_neg (fun h => h2 h.2)]; exact bad
theorem m_adds (n : Nat) (hn : 1000 ≤ n) (st : St) (P : Bool) (hP : st.1 130 47 = if P = true then 0 else 1) {x y : Int × Nat} (hx : vF x) (hy : vF y) : ∃ st1, fX11_adds n (lZ x.1) (lN x.2) (lZ y.1) (lN y.2) st = some ((), st1) ∧ MS st1 (if P = true then addF x y else none) ∧ Same wF wG st st1 := by
  obtain ⟨q1, q2, q3, q4, q5⟩ := vF_add hx hy
  obtain ⟨s1, g1, g2, g3⟩ := m_lowest n hn st P hP q1 q4 q5
  refine ⟨s1, ?_, g2, g3⟩
  simp only [fX11_adds, fX11_adds_s0, fX11_adds_s17]
  rw [← lZ_nat, ← lZ_nat, lZ_mul, lZ_mul, lZ_add, lZ_mul, ← Int.natCast_mul, lZ_nat, g1]
  rfl
theorem mkF_scale (c : Nat) (hc : 0 < c) (p : Int) (q : Nat) : mkF ((c : Int) * p) (c * q) = mkF p q := by
  unfold mkF
  rw [Int.natAbs_mul, Int.natAbs_natCast, Nat.gcd_mul_left, Int.natCast_mul, Int.mul_ediv_mul_of_pos _ _ (by omega), Nat.mul_div_mul_left _ _ hc]
theorem m_mul (n : Nat) (hn : 1000 ≤ n) (st : St) (P : Bool) (hP : st.1 130 47 = if P = true then 0 else 1) {x y : Int × Nat} (hx : vF x) (hy : vF y) : ∃ st1, fX11_multiplies n (lZ x.1) (lN x.2) (lZ y.1) (lN y.2) st = some ((), st1) ∧ MS st1 (if P = true then mulF x y else none) ∧ Same wF wG st st1 := by
  obtain ⟨x1, x2, x3⟩ := id hx
  obtain ⟨y1, y2, y3⟩ := id hy
  obtain ⟨q1, q2, q3, q4, q5⟩ := vF_add hx hy
  have e1 := m_divisor n hn st (z := x.1) (y := (y.2 : Int)) (by omega) (by omega)
  have e2 := m_divisor n hn st (z := y.1) (y := (x.2 : Int)) (by omega) (by omega)
  rw [lZ_nat, Int.natAbs_natCast] at e1 e2
  have hg : 0 < Nat.gcd x.1.natAbs y.2 := Nat.gcd_pos_of_pos_right _ (by omega)
  have hg2 : Nat.gcd x.1.natAbs y.2 ≤ y.2 := Nat.le_of_dvd (by omega) (Nat.gcd_dvd_right _ _)
  have hgd : ((Nat.gcd x.1.natAbs y.2 : Nat) : Int) ∣ x.1 := Int.ofNat_dvd_left.mpr (Nat.gcd_dvd_left _ _)
  have hge : Nat.gcd x.1.natAbs y.2 ∣ y.2 := Nat.gcd_dvd_right _ _
  have hh : 0 < Nat.gcd y.1.natAbs x.2 := Nat.gcd_pos_of_pos_right _ (by omega)
  have hh2 : Nat.gcd y.1.natAbs x.2 ≤ x.2 := Nat.le_of_dvd (by omega) (Nat.gcd_dvd_right _ _)
  have hhd : ((Nat.gcd y.1.natAbs x.2 : Nat) : Int) ∣ y.1 := Int.ofNat_dvd_left.mpr (Nat.gcd_dvd_left _ _)
  have hhe : Nat.gcd y.1.natAbs x.2 ∣ x.2 := Nat.gcd_dvd_right _ _
  generalize Nat.gcd x.1.natAbs y.2 = g at *
  generalize Nat.gcd y.1.natAbs x.2 = h at *
  have g0 : ¬ lN g = 0 := fun w => by have := (pk_lEQ (show g < 2 ^ 63 by omega) (show 0 < 2 ^ 63 by decide)).mp w; omega
  have h0 : ¬ lN h = 0 := fun w => by have := (pk_lEQ (show h < 2 ^ 63 by omega) (show 0 < 2 ^ 63 by decide)).mp w; omega
  simp only [fX11_multiplies, fX11_multiplies_s0, e1, e2, Option.bind_some, fX11_multiplies_s6, fX11_multiplies_s14, fX11_multiplies_s27, fX11_multiplies_s29, fX11_multiplies_s42, fX11_multiplies_s44, fX11_multiplies_s70]
  rw [if_neg g0, if_neg h0, if_neg g0, if_neg h0, if_neg h0, if_neg g0]
  rw [lZ_div (by omega) hg (by omega) hgd, lZ_div (by omega) hh (by omega) hhd, pk_lDiv (by omega) hh (by omega), pk_lDiv (by omega) hg (by omega), lZ_mul, lN_mul]
  have es : mulF x y = mkF (x.1 / (g : Int) * (y.1 / (h : Int))) (x.2 / h * (y.2 / g)) := by
    unfold mulF
    rw [← mkF_scale (g * h) (Nat.mul_pos hg hh) (x.1 / (g : Int) * (y.1 / (h : Int)))]
    obtain ⟨a, ha⟩ := hgd
    obtain ⟨b, hb⟩ := hhd
    obtain ⟨c, hc⟩ := hge
    obtain ⟨d, hd⟩ := hhe
    rw [ha, hb, hc, hd, Int.mul_ediv_cancel_left _ (by omega), Int.mul_ediv_cancel_left _ (by omega), Nat.mul_div_cancel_left _ hg, Nat.mul_div_cancel_left _ hh, Int.natCast_mul]
    congr 1
    · ac_rfl
    · ac_rfl
  have a1 : (x.1 / (g : Int)).natAbs ≤ 1000000000 := by rw [natAbs_div _ _ hgd]; exact Nat.le_trans (Nat.div_le_self _ _) x1
  have a2 : (y.1 / (h : Int)).natAbs ≤ 1000000000 := by rw [natAbs_div _ _ hhd]; exact Nat.le_trans (Nat.div_le_self _ _) y1
  have a3 : x.2 / h ≤ 1000000000 := Nat.le_trans (Nat.div_le_self _ _) x3
  have a4 : y.2 / g ≤ 1000000000 := Nat.le_trans (Nat.div_le_self _ _) y3
  have a5 : 0 < x.2 / h := Nat.div_pos hh2 hh
  have a6 : 0 < y.2 / g := Nat.div_pos hg2 hg
  have b1 := mulB a1 a2
  have b2 := mulB a3 a4
  have b3 : 0 < x.2 / h * (y.2 / g) := Nat.mul_pos a5 a6
  obtain ⟨s1, k1, k2, k3⟩ := m_lowest n hn st P hP (p := x.1 / (g : Int) * (y.1 / (h : Int))) (q := x.2 / h * (y.2 / g)) (by rw [Int.natAbs_mul]; omega) b3 (by omega)
  rw [k1, es]
  exact ⟨s1, rfl, k2, k3⟩
