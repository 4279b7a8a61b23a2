/-! ===== steady ===== -/
theorem ends_iff (v : Int64) (x : UInt64) (D : Int64) (s : Nat) (hx : x.toNat % 64 = s) (hD : (D.toBitVec.smod 64).toNat = s) (hs : s ≤ 62) : (v.toUInt64 >>> x).toInt64 = 0 ↔ (¬ v < 0 ∧ v >>> D = 0) := by
  have h1 : (v.toUInt64 >>> x).toInt64 = 0 ↔ v.toBitVec.toNat / 2 ^ s = 0 := by
    rw [← Int64.toBitVec_inj, ← BitVec.toNat_inj]
    show (v.toUInt64 >>> x).toNat = 0 ↔ v.toUInt64.toNat / 2 ^ s = 0
    rw [UInt64.toNat_shiftRight, hx, Nat.shiftRight_eq_div_pow]
  have h2 : v >>> D = 0 ↔ v.toInt / ((2 ^ s : Nat) : Int) = 0 := by
    have e : (v >>> D).toInt = v.toInt >>> s := by
      rw [← hD]
      exact BitVec.toInt_sshiftRight ..
    rw [← Int64.toInt_inj, e, Int.shiftRight_eq_div_pow]
    rfl
  have h3 : v.toInt = if 2 * v.toBitVec.toNat < 2 ^ 64 then (v.toBitVec.toNat : Int) else (v.toBitVec.toNat : Int) - ((2 ^ 64 : Nat) : Int) := BitVec.toInt_eq_toNat_cond _
  have hlt := v.toBitVec.isLt
  rw [h1, h2, Int64.lt_iff_toInt_lt, show (0 : Int64).toInt = 0 from rfl]
  have hp : (2 : Nat) ^ s ≤ 2 ^ 62 := Nat.pow_le_pow_right (by decide) hs
  have hp0 : 0 < (2 : Nat) ^ s := Nat.pow_pos (by decide)
  generalize hq : (2 : Nat) ^ s = q at *
  by_cases hc : 2 * v.toBitVec.toNat < 2 ^ 64
  · rw [if_pos hc] at h3
    rw [h3]
    constructor
    · intro h
      refine ⟨by omega, ?_⟩
      rw [← Int.natCast_ediv, h]; rfl
    · intro h
      have := h.2
      rw [← Int.natCast_ediv] at this
      exact_mod_cast this
  · rw [if_neg hc] at h3
    constructor
    · intro h
      have : v.toBitVec.toNat < q := (Nat.div_eq_zero_iff_lt hp0).mp h
      omega
    · intro h
      exact absurd (by rw [h3]; omega) h.1
theorem and_l (y m : Int64) (k : Nat) (hm : m.toBitVec.toNat = 2 ^ k - 1) : y &&& m = lN (y.toBitVec.toNat % 2 ^ k) := by
  rw [← Int64.toBitVec_inj, ← BitVec.toNat_inj]
  show (y.toBitVec &&& m.toBitVec).toNat = (BitVec.ofNat 64 (y.toBitVec.toNat % 2 ^ k)).toNat
  rw [BitVec.toNat_and, hm, Nat.and_two_pow_sub_one_eq_mod, BitVec.toNat_ofNat]
  have h1 := Nat.mod_le y.toBitVec.toNat (2 ^ k)
  have h2 := y.toBitVec.isLt
  rw [Nat.mod_eq_of_lt (Nat.lt_of_le_of_lt h1 h2)]
theorem by_long (v : Int64) (i : Nat) (h : i < 8) : ∃ b, b ≤ 255 ∧ (((v.toUInt64 >>> (((8 : Int32) * nI i).toInt64.toUInt64 &&& Int64.toUInt64 63)).toInt64).toInt32) &&& 255 = nI b ∧ (v >>> (((8 : Int32) * nI i).toInt64 &&& 63)) &&& 255 = lN b := by
  obtain ⟨b, hb, e1, e2⟩ := by_both v i h
  have e3 := and_l (v >>> (((8 : Int32) * nI i).toInt64 &&& 63)) 255 8 (by decide)
  obtain ⟨c, hc⟩ : ∃ c, c = (v >>> (((8 : Int32) * nI i).toInt64 &&& 63)).toBitVec.toNat % 2 ^ 8 := ⟨_, rfl⟩
  rw [← hc] at e3
  have hc2 : c < 256 := by rw [hc]; exact Nat.mod_lt _ (by decide)
  rw [e3, lN_i] at e2
  have : c = b := (nI_eq (by omega) (by omega)).mp e2
  subst this
  exact ⟨c, hb, e1, e3⟩
def absJ (x : Int64) : Int64 := if 0 < x then x else -x
theorem size_eq (n : Nat) (x : Int64) (st : St) : fX11_size n x st = some (absJ x, st) := by
  simp only [fX11_size, fX11_size_s0, fX11_size_s6, fX11_size_s11, fX11_size_s12, absJ]
  by_cases h : 0 < x
  · rw [if_pos h, if_pos (by rw [Int64.lt_iff_toInt_lt] at h; rw [Int64.le_iff_toInt_le]; omega)]
  · rw [if_neg h]
    by_cases h0 : 0 ≤ x
    · rw [if_pos h0]
      have : x = 0 := by
        rw [← Int64.toInt_inj]
        rw [Int64.lt_iff_toInt_lt] at h
        rw [Int64.le_iff_toInt_le] at h0
        have e : (0 : Int64).toInt = 0 := rfl
        omega
      subst this; rfl
    · rw [if_neg h0]
def low (p : Nat → Int64) (t : Nat) : Nat → Int64 := fun i => p 0 * p i - p t * p (t - i)
def stead : Nat → (Nat → Int64) → Int32
  | 0, _ => 1
  | t + 1, p => if absJ (p (t + 1)) < absJ (p 0) then stead t (if t = 0 then p else low p (t + 1)) else 0
theorem stead_congr : ∀ (t : Nat) (p q : Nat → Int64), (∀ i, i ≤ t → p i = q i) → stead t p = stead t q := by
  intro t
  induction t with
  | zero => intro p q _; rfl
  | succ t ih =>
    intro p q h
    rw [stead, stead, h (t + 1) (Nat.le_refl _), h 0 (by omega)]
    by_cases z : t = 0
    · subst z
      rw [if_pos rfl, if_pos rfl]; rfl
    · rw [if_neg z, if_neg z, ih (low p (t + 1)) (low q (t + 1)) (fun i hi => by
        unfold low
        rw [h 0 (by omega), h i (by omega), h (t + 1) (Nat.le_refl _), h (t + 1 - i) (by omega)])]
def lwS (st : St) (a z : Int64) (i j : Nat) : St := setJ (setJ st 48 i (a * st.2 48 i - z * st.2 48 j)) 48 j (a * st.2 48 j - z * st.2 48 i)
theorem lw_step (n k : Nat) (a z : Int64) (i j : Nat) (st : St) (hi : i < 5) (hj : j < 5) (hij : i ≤ j) : fX10_lower_L36 n (k + 1) a z (nI i) (nI j) st = fX10_lower_L36 n k a z (nI (i + 1)) (nI j - 1) (lwS st a z i j) := by
  simp only [fX10_lower_L36, fX10_lower_s36, fX10_lower_s43, fX10_lower_s78, fX10_lower_s95, inb_nI hi (by decide), inb_nI hj (by decide), nI_clamp (show i < 2 ^ 31 by omega), nI_clamp (show j < 2 ^ 31 by omega), if_true]
  rw [if_neg (nI_nlt hij (by omega)), nI_1, Int32.sub_eq_add_neg]
  rfl
theorem lw_end (n k : Nat) (a z : Int64) (i : Nat) (j : Int32) (st : St) (h : j < nI i) : fX10_lower_L36 n (k + 1) a z (nI i) j st = some ((), st) := by
  simp only [fX10_lower_L36, fX10_lower_s36, fX10_lower_s104]
  rw [if_pos h]
theorem c_lower (n t : Nat) (st : St) (hn : 10 ≤ n) (ht : 2 ≤ t) (h4 : t ≤ 4) : ∃ st1, fX10_lower n (nI t) st = some ((), st1) ∧ ∀ i, i < t → st1.2 48 i = low (st.2 48) t i := by
  have e0 : fX10_lower n (nI t) st = fX10_lower_L36 n n (st.2 48 0) (st.2 48 t) (nI 0) (nI t) st := by
    simp only [fX10_lower, fX10_lower_s0, fX10_lower_s5, fX10_lower_s15, inb_nI (show t < 5 by omega) (by decide), nI_clamp (show t < 2 ^ 31 by omega), if_true]
    rw [if_neg (show ¬ nI t < 2 from nI_nlt (b := 2) ht (by omega)), if_pos (show nI t < 5 from nI_lt (b := 5) (by omega) (by decide)), if_pos (show inb 0 5 = true from rfl)]
    rfl
  obtain ⟨k, rfl⟩ : ∃ k, n = k + 4 := ⟨n - 4, by omega⟩
  rw [e0]
  match t, ht, h4 with
  | 2, _, _ =>
    refine ⟨lwS (lwS st (st.2 48 0) (st.2 48 2) 0 2) (st.2 48 0) (st.2 48 2) 1 1, ?_, ?_⟩
    · rw [lw_step _ _ _ _ 0 2 _ (by decide) (by decide) (by decide), show nI 2 - 1 = nI 1 from rfl, lw_step _ _ _ _ 1 1 _ (by decide) (by decide) (by decide), lw_end _ _ _ _ _ _ _ (by decide)]
    · intro i hi
      match i, hi with
      | 0, _ => simp (config := { decide := true }) only [lwS, sJ_k, sJ_at, ne_eq, not_false_eq_true]; rfl
      | 1, _ => simp (config := { decide := true }) only [lwS, sJ_k, sJ_at, ne_eq, not_false_eq_true]; rfl
  | 3, _, _ =>
    refine ⟨lwS (lwS st (st.2 48 0) (st.2 48 3) 0 3) (st.2 48 0) (st.2 48 3) 1 2, ?_, ?_⟩
    · rw [lw_step _ _ _ _ 0 3 _ (by decide) (by decide) (by decide), show nI 3 - 1 = nI 2 from rfl, lw_step _ _ _ _ 1 2 _ (by decide) (by decide) (by decide), lw_end _ _ _ _ _ _ _ (by decide)]
    · intro i hi
      match i, hi with
      | 0, _ => simp (config := { decide := true }) only [lwS, sJ_k, sJ_at, ne_eq, not_false_eq_true]; rfl
      | 1, _ => simp (config := { decide := true }) only [lwS, sJ_k, sJ_at, ne_eq, not_false_eq_true]; rfl
      | 2, _ => simp (config := { decide := true }) only [lwS, sJ_k, sJ_at, ne_eq, not_false_eq_true]; rfl
  | 4, _, _ =>
    refine ⟨lwS (lwS (lwS st (st.2 48 0) (st.2 48 4) 0 4) (st.2 48 0) (st.2 48 4) 1 3) (st.2 48 0) (st.2 48 4) 2 2, ?_, ?_⟩
    · rw [lw_step _ _ _ _ 0 4 _ (by decide) (by decide) (by decide), show nI 4 - 1 = nI 3 from rfl, lw_step _ _ _ _ 1 3 _ (by decide) (by decide) (by decide), show nI 3 - 1 = nI 2 from rfl, lw_step _ _ _ _ 2 2 _ (by decide) (by decide) (by decide), lw_end _ _ _ _ _ _ _ (by decide)]
    · intro i hi
      match i, hi with
      | 0, _ => simp (config := { decide := true }) only [lwS, sJ_k, sJ_at, ne_eq, not_false_eq_true]; rfl
      | 1, _ => simp (config := { decide := true }) only [lwS, sJ_k, sJ_at, ne_eq, not_false_eq_true]; rfl
      | 2, _ => simp (config := { decide := true }) only [lwS, sJ_k, sJ_at, ne_eq, not_false_eq_true]; rfl
      | 3, _ => simp (config := { decide := true }) only [lwS, sJ_k, sJ_at, ne_eq, not_false_eq_true]; rfl
theorem c_stead (n : Nat) (hn : 10 ≤ n) : ∀ (t k : Nat) (st : St), t ≤ 4 → t < k → ∃ st1, fX10_steady_L95 n k (nI t) st = some (stead t (st.2 48), st1) := by
  intro t
  induction t with
  | zero =>
    intro k st _ hk
    obtain ⟨k, rfl⟩ : ∃ j, k = j + 1 := ⟨k - 1, by omega⟩
    refine ⟨st, ?_⟩
    simp only [fX10_steady_L95, fX10_steady_s95, fX10_steady_s137]
    rw [if_pos (show nI 0 ≤ 0 by decide)]
    rfl
  | succ t ih =>
    intro k st h4 hk
    obtain ⟨k, rfl⟩ : ∃ j, k = j + 1 := ⟨k - 1, by omega⟩
    simp only [fX10_steady_L95, fX10_steady_s95, fX10_steady_s100, inb_nI (show t + 1 < 5 by omega) (by decide), nI_clamp (show t + 1 < 2 ^ 31 by omega), if_true]
    rw [if_neg (nI_nle (by omega) (by omega)), if_pos (show inb 0 5 = true from rfl), show (0 : Int32).toNatClampNeg = 0 from rfl]
    rw [stead]
    show ∃ st1, (if absJ (st.2 48 (t + 1)) < absJ (st.2 48 0) then _ else _) = _
    by_cases h : absJ (st.2 48 (t + 1)) < absJ (st.2 48 0)
    · rw [if_pos h, if_pos h]
      simp only [fX10_steady_s125, fX10_steady_s131]
      by_cases z : t = 0
      · subst z
        have el : fX10_lower n (nI (0 + 1)) st = some ((), st) := by
          simp only [fX10_lower, fX10_lower_s0, fX10_lower_s14]
          rw [if_pos (by decide)]
        rw [el, if_pos rfl]
        simp only [Option.bind_some]
        rw [show nI (0 + 1) + (-1) = nI 0 from rfl]
        exact ih k st (by omega) (by omega)
      · obtain ⟨st1, e1, e2⟩ := c_lower n (t + 1) st hn (by omega) h4
        obtain ⟨st2, g⟩ := ih k st1 (by omega) (by omega)
        refine ⟨st2, ?_⟩
        rw [e1, if_neg z]
        simp only [Option.bind_some]
        rw [show nI (t + 1) + (-1) = nI t from pk_m1 t, g, stead_congr t _ _ (fun i hi => e2 i (by omega))]
    · rw [if_neg h, if_neg h]
      exact ⟨st, rfl⟩
theorem m_low1 (n t : Nat) (K : Int32 → St → Option (Int32 × St)) (ht : 2 ≤ t) (h4 : t ≤ 4) (p : Nat → Int64) : ∀ (k i : Nat) (st : St), i ≤ t → t - i < k → (∀ j, st.2 163 j = p j) → (∀ j, j < i → st.2 164 j = low p t j) → ∃ st1, fX11_steady_L149 n K k (nI t) (nI i) st = fX11_steady_s202 n K (nI t) st1 ∧ (∀ j, j < t → st1.2 164 j = low p t j) ∧ ∀ j, st1.2 163 j = p j := by
  intro k
  induction k with
  | zero => intro i st _ h; omega
  | succ k ih =>
    intro i st hi hk hp hl
    simp only [fX11_steady_L149, fX11_steady_s149]
    by_cases h : i = t
    · subst h
      rw [if_pos (nI_le (Nat.le_refl _) (by omega))]
      exact ⟨st, rfl, hl, hp⟩
    · rw [if_neg (nI_ge (by omega) (by omega))]
      simp only [fX11_steady_s156, fX11_steady_s196, pk_sub hi, inb_nI (show i < 5 by omega) (by decide), inb_nI (show t < 5 by omega) (by decide), inb_nI (show t - i < 5 by omega) (by decide), nI_clamp (show i < 2 ^ 31 by omega), nI_clamp (show t < 2 ^ 31 by omega), nI_clamp (show t - i < 2 ^ 31 by omega), if_true]
      rw [if_pos (show inb 0 5 = true from rfl), show (0 : Int32).toNatClampNeg = 0 from rfl, hp, hp, hp, hp, nI_1]
      refine ih (i + 1) _ (by omega) (by omega) (fun j => by rw [sJ_o (by decide)]; exact hp j) (fun j hj => ?_)
      by_cases q : j = i
      · subst q; rw [sJ_at]; rfl
      · rw [sJ_k q]; exact hl j (by omega)
theorem m_low2 (n t : Nat) (K : Int32 → St → Option (Int32 × St)) (ht : 2 ≤ t) (h4 : t ≤ 4) (p : Nat → Int64) : ∀ (k i : Nat) (st : St), i ≤ t → t - i < k → (∀ j, j < t → st.2 164 j = p j) → (∀ j, j < i → st.2 163 j = p j) → ∃ st1, fX11_steady_L205 n K k (nI t) (nI i) st = fX11_steady_s232 n K (nI t) st1 ∧ ∀ j, j < t → st1.2 163 j = p j := by
  intro k
  induction k with
  | zero => intro i st _ h; omega
  | succ k ih =>
    intro i st hi hk hp hl
    simp only [fX11_steady_L205, fX11_steady_s205]
    by_cases h : i = t
    · subst h
      rw [if_pos (nI_le (Nat.le_refl _) (by omega))]
      exact ⟨st, rfl, hl⟩
    · rw [if_neg (nI_ge (by omega) (by omega))]
      simp only [fX11_steady_s212, fX11_steady_s226, inb_nI (show i < 5 by omega) (by decide), nI_clamp (show i < 2 ^ 31 by omega), if_true]
      rw [hp i (by omega), nI_1]
      refine ih (i + 1) _ (by omega) (by omega) (fun j hj => by rw [sJ_o (by decide)]; exact hp j hj) (fun j hj => ?_)
      by_cases q : j = i
      · subst q; rw [sJ_at]
      · rw [sJ_k q]; exact hl j (by omega)
theorem m_stead (n : Nat) (hn : 10 ≤ n) : ∀ (t k : Nat) (st : St), t ≤ 4 → t < k → ∃ st1, fX11_steady_L110 n k (nI t) st = some (stead t (st.2 163), st1) := by
  intro t
  induction t with
  | zero =>
    intro k st _ hk
    obtain ⟨k, rfl⟩ : ∃ j, k = j + 1 := ⟨k - 1, by omega⟩
    refine ⟨st, ?_⟩
    simp only [fX11_steady_L110, fX11_steady_s110, fX11_steady_s238]
    rw [if_pos (show nI 0 ≤ 0 by decide)]
    rfl
  | succ t ih =>
    intro k st h4 hk
    obtain ⟨k, rfl⟩ : ∃ j, k = j + 1 := ⟨k - 1, by omega⟩
    simp only [fX11_steady_L110, fX11_steady_s110, fX11_steady_s115, fX11_steady_s124, fX11_steady_s134, size_eq, Option.bind_some, inb_nI (show t + 1 < 5 by omega) (by decide), nI_clamp (show t + 1 < 2 ^ 31 by omega), if_true]
    rw [if_neg (nI_nle (by omega) (by omega)), if_pos (show inb 0 5 = true from rfl), show (0 : Int32).toNatClampNeg = 0 from rfl]
    rw [stead]
    by_cases h : absJ (st.2 163 (t + 1)) < absJ (st.2 163 0)
    · rw [if_pos h, if_pos h]
      simp only [fX11_steady_s140]
      by_cases z : t = 0
      · subst z
        rw [if_pos (show nI (0 + 1) ≤ 1 by decide), if_pos rfl]
        simp only [fX11_steady_s232]
        rw [show nI (0 + 1) + (-1) = nI 0 from rfl]
        exact ih k st (by omega) (by omega)
      · rw [if_neg (show ¬ nI (t + 1) ≤ 1 from nI_ge (a := 1) (by omega) (by omega)), if_neg z]
        simp only [fX11_steady_s146]
        obtain ⟨st1, e1, e2, e3⟩ := m_low1 n (t + 1) (fX11_steady_L110 n k) (by omega) h4 (st.2 163) n 0 st (by omega) (by omega) (fun _ => rfl) (fun j hj => by omega)
        obtain ⟨st2, g1, g2⟩ := m_low2 n (t + 1) (fX11_steady_L110 n k) (by omega) h4 (low (st.2 163) (t + 1)) n 0 st1 (by omega) (by omega) e2 (fun j hj => by omega)
        obtain ⟨st3, k1⟩ := ih k st2 (by omega) (by omega)
        refine ⟨st3, ?_⟩
        rw [show (0 : Int32) = nI 0 from rfl, e1]
        simp only [fX11_steady_s202]
        rw [show (0 : Int32) = nI 0 from rfl, g1]
        simp only [fX11_steady_s232]
        rw [pk_m1, k1, stead_congr t _ _ (fun i hi => g2 i (by omega))]
    · rw [if_neg h, if_neg h]
      exact ⟨st, rfl⟩
