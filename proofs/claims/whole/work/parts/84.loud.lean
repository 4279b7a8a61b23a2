def sumF (t a m : Int × Nat) (g : Nat → Int × Nat → Fq) : Nat → Fq
  | 0 => some (0, 1)
  | k + 1 => (sumF t a m g k).bind fun s => (oO t a m k).bind fun o => (g k o).bind fun x => addF s x
theorem sumF_dead {t a m : Int × Nat} {g : Nat → Int × Nat → Fq} {k : Nat} (h : sumF t a m g k = none) (j : Nat) : sumF t a m g (k + j) = none := by
  induction j with
  | zero => exact h
  | succ j ih => rw [← Nat.add_assoc, sumF, ih]; rfl
theorem sumF_o {t a m : Int × Nat} {g : Nat → Int × Nat → Fq} {k : Nat} (h : oO t a m k = none) : sumF t a m g (k + 1) = none := by
  rw [sumF, h]
  cases sumF t a m g k with
  | none => rfl
  | some x => rfl
theorem sumF_v {t a m : Int × Nat} (vt : vF t) (va : vF a) (vm : vF m) {g : Nat → Int × Nat → Fq} (hg : ∀ k o, vF o → vO (g k o)) : ∀ k, vO (sumF t a m g k) := by
  intro k
  induction k with
  | zero => intro x h; cases h; exact vF_01
  | succ k ih =>
    rw [sumF]
    exact bind_v ih (fun s hs => bind_v (oO_v vt va vm k) (fun o ho => bind_v (hg k o ho) (fun x hx => (addF_v hs hx).1)))
theorem c_loud {n : Nat} (hn : 1000 ≤ n) {t a m : Int × Nat} (k : Nat) (hk : k ≤ 30) : ∀ (j w : Nat) (st : St) (L : Nat → Fq), w ≤ k → k - w < j → LnS st [25, 26, 27, 28, 30, 31, 35] L → RunL t a m L w → L 35 = sumF t a m (fun _ o => mulF o o) w → ∃ st1, fX4_loudness_L6 n j (nI k) (nI w) st = some ((), st1) ∧ Fr st1 35 (sumF t a m (fun _ o => mulF o o) k) := by
  intro j
  induction j with
  | zero => intro w st L _ h; omega
  | succ j ih =>
    intro w st L hw hj hL hR h35
    simp only [fX4_loudness_L6, fX4_loudness_s6]
    by_cases q : w = k
    · subst q
      rw [if_pos (nI_le (Nat.le_refl _) (by omega))]
      exact ⟨st, rfl, by rw [← h35]; exact (hL 35 (by decide)).1⟩
    · rw [if_neg (nI_ge (by omega) (by omega))]
      obtain ⟨s1, e1, h1⟩ := c_pass hn hL w (by omega)
      obtain ⟨g1, g2⟩ := RunL_step hR
      obtain ⟨s2, e2, h2⟩ := o_prd hn h1 33 32 32 (by decide) (by decide)
      obtain ⟨s3, e3, h3⟩ := o_sum hn h2 35 35 33 (by decide) (by decide)
      simp only [fX4_loudness_s11, e1, Option.bind_some, fX4_loudness_s16, e2, fX4_loudness_s31, e3, fX4_loudness_s46, nI_1]
      refine ih (w + 1) s3 _ (by omega) (by omega) (h3.mono (by decide)) ?_ ?_
      · unfold RunL
        simp (config := { decide := true }) only [setF, if_true, if_false]
        exact g1
      · rw [setF_at, setF_o (by decide), setF_at, g2, passL_keep L w 35 (by omega), h35, sumF]
        unfold addO mulO
        cases sumF t a m (fun _ o => mulF o o) w with
        | none => rfl
        | some s =>
          cases oO t a m w with
          | none => rfl
          | some o => rfl
/-- the reference's sum, if no echo is spent -/
theorem m_loud {n : Nat} (hn : 1000 ≤ n) {t a m : Int × Nat} (vt : vF t) (va : vF a) (vm : vF m) (b : Int32) (k : Nat) (hk : k ≤ 30) : ∀ (j w : Nat) (st : St) (s : Int × Nat), w ≤ k → k - w < j → (∀ i, i < k → ∃ o, oO t a m i = some o ∧ st.2 159 i = lZ o.1 ∧ st.2 160 i = lN o.2) → sumF t a m (fun _ o => mulF o o) w = some s → st.1 130 47 = 0 → ∃ st1, fX11_loud_L41 n j (nI k) b (lZ s.1) (lN s.2) (nI w) st = some (tellF (sumF t a m (fun _ o => mulF o o) k) b, st1) := by
  intro j
  induction j with
  | zero => intro w st s _ h; omega
  | succ j ih =>
    intro w st s hw hj hO hs h0
    simp only [fX11_loud_L41, fX11_loud_s41]
    by_cases q : w = k
    · subst q
      rw [if_pos (nI_le (Nat.le_refl _) (by omega)), hs]
      simp only [fX11_loud_s118, fX11_loud_s131, fX11_loud_s135, fX11_loud_s139, fX11_loud_s141]
      rw [if_pos h0]
      refine ⟨st, ?_⟩
      unfold tellF
      by_cases z : b = 0
      · rw [if_pos z]; simp only [if_pos z]
      · rw [if_neg z]; simp only [if_neg z]
    · rw [if_neg (nI_ge (by omega) (by omega))]
      simp only [fX11_loud_s47]
      rw [if_pos h0]
      obtain ⟨o, o1, o2, o3⟩ := hO w (by omega)
      have vo := oO_v vt va vm w o o1
      have vs := sumF_v vt va vm (g := fun _ o => mulF o o) (fun k o ho => (addF_v ho ho).2.2) w s hs
      obtain ⟨s1, e1, m1, k1⟩ := m_mul n hn st true h0 vo vo
      rw [if_pos rfl] at m1
      have v1 : vO (mulF o o) := (addF_v vo vo).2.2
      obtain ⟨s2, e2, m2, k2⟩ := m_adds n hn s1 (mulF o o).isSome (MS_fl m1) vs (gd0_v v1)
      simp only [fX11_loud_s54, inb_nI (show w < 31 by omega) (by decide), nI_clamp (show w < 2 ^ 31 by omega), if_true, o2, o3, e1, Option.bind_some, fX11_loud_s86, m1.2.1, m1.2.2, e2, fX11_loud_s101, m2.2.1, m2.2.2, nI_1]
      have hsum : sumF t a m (fun _ o => mulF o o) (w + 1) = (if (mulF o o).isSome = true then addF s (gd0 (mulF o o)) else none) := by
        rw [sumF, hs, o1]
        simp only [Option.bind_some]
        cases mulF o o with
        | none => rfl
        | some x => rfl
      rw [← hsum] at m2 ⊢
      have hO2 : ∀ i, i < k → ∃ o, oO t a m i = some o ∧ s2.2 159 i = lZ o.1 ∧ s2.2 160 i = lN o.2 := by
        intro i hi
        obtain ⟨x, x1, x2, x3⟩ := hO i hi
        exact ⟨x, x1, (kJ (k1.trans k2) (by omega)).trans x2, (kJ (k1.trans k2) (by omega)).trans x3⟩
      cases e : sumF t a m (fun _ o => mulF o o) (w + 1) with
      | some s' =>
        rw [e] at m2
        exact ih (w + 1) s2 s' (by omega) (by omega) hO2 e m2.1
      | none =>
        rw [e] at m2
        have h1 : s2.1 130 47 = 1 := m2.1
        have hd := sumF_dead e (k - (w + 1))
        rw [show w + 1 + (k - (w + 1)) = k by omega] at hd
        rw [hd]
        obtain ⟨j, rfl⟩ : ∃ i, j = i + 1 := ⟨j - 1, by omega⟩
        simp only [fX11_loud_L41, fX11_loud_s41, fX11_loud_s47, fX11_loud_s118, fX11_loud_s125, fX11_loud_s141]
        rw [if_neg (show ¬ s2.1 130 47 = 0 by rw [h1]; decide), if_neg (show ¬ s2.1 130 47 = 0 by rw [h1]; decide)]
        simp only [ite_self]
        exact ⟨s2, rfl⟩
theorem SPloud (n : Nat) (hn : 1000 ≤ n) : SP_loud n Inv := by
  intro k a st hI
  obtain ⟨t, c, m, vt, va, vm, hT, ⟨L, hL, h25, h26, h27, h28⟩, -⟩ := line_both hI
  suffices hq : ∃ r st1, fX10_loud n k a st = some (r, st1) ∧ (Ess st st1 → ∃ st2, fX11_loud n k a st1 = some (r, st2)) by
    obtain ⟨r, st1, h1, h2⟩ := hq
    have hE := Ess.of (zX10_loud n k a st _ h1) rfl rfl
    have hI1 := hI.ess hE
    obtain ⟨st2, h3⟩ := h2 hE
    exact ⟨r, st1, st2, h1, h3, hI1.ess (Ess.of (zX11_loud n k a st1 _ h3) rfl rfl)⟩
  by_cases hk : 1 ≤ k ∧ k ≤ 30
  · obtain ⟨i, hi, rfl⟩ := nI_of2 (M := 30) (n := 30) rfl (le_of_nlt32.mpr (Int32.le_trans (by decide) hk.1)) hk.2
    obtain ⟨i, rfl⟩ : ∃ j, i = j + 1 := ⟨i - 1, by
      have := hk.1
      rw [Int32.le_iff_toInt_le, nI_toInt (by omega)] at this
      have e : (1 : Int32).toInt = 1 := rfl
      omega⟩
    by_cases ha : 0 ≤ a ∧ a ≤ 1
    · obtain ⟨s0, L0, e0, hL0, hR0, h35⟩ := c_begin hn hL h25 h26 h27 h28
      obtain ⟨s1, e1, e2⟩ := c_loud hn (i + 1) hi n 0 s0 L0 (by omega) (by omega) hL0 hR0 h35
      refine ⟨tellF (sumF t c m (fun _ o => mulF o o) (i + 1)) a, s1, ?_, fun hE => ?_⟩
      · simp only [fX10_loud, fX10_loud_s0, pw, Option.bind_some, b1_pos hk, fX10_loud_s7, fX10_loud_s10, b1_pos ha, fX10_loud_s16, fX10_loud_s23, fX4_loudness, fX4_loudness_s0, e0, fX4_loudness_s4]
        rw [if_neg (show ¬ (1 : Int32) = 0 by decide), if_neg (show ¬ (1 : Int32) = 0 by decide), show (0 : Int32) = nI 0 from rfl, e1]
        simp only [Option.bind_some, fX10_loud_s31, c_tell n 35 a s1 e2, fX10_loud_s42]
      · obtain ⟨s2, g1, g2, g3, g4⟩ := m_find hn vt va vm i (by omega) s1 (Tam_ess hE hT)
        simp only [fX11_loud, fX11_loud_s0, pinl (lo := 1) (hi := 30) (lo' := 1) (hi' := 30) (by decide) (by decide), Option.bind_some, b1_pos hk, fX11_loud_s9, fX11_loud_s12, pinl (lo := 0) (hi := 1) (lo' := 0) (hi' := 1) (by decide) (by decide), b1_pos ha, fX11_loud_s19, fX11_loud_s26, nI_pred, g1, fX11_loud_s33]
        rw [if_neg (show ¬ (1 : Int32) = 0 by decide), if_neg (show ¬ (1 : Int32) = 0 by decide)]
        cases e : runO t c m (i + 1) with
        | none =>
          rw [e] at g4
          obtain ⟨j, rfl⟩ : ∃ j, n = j + 1 := ⟨n - 1, by omega⟩
          simp only [fX11_loud_L41, fX11_loud_s41, fX11_loud_s47, fX11_loud_s118, fX11_loud_s125, fX11_loud_s141]
          rw [if_neg (show ¬ s2.1 130 47 = 0 by rw [g4]; decide), if_neg (show ¬ s2.1 130 47 = 0 by rw [g4]; decide)]
          simp only [ite_self]
          rw [sumF_o ((oO_run t c m i).mpr e)]
          exact ⟨s2, rfl⟩
        | some x =>
          rw [e] at g4
          exact m_loud hn vt va vm a (i + 1) hi n 0 s2 (0, 1) (by omega) (by omega) g4.2.2 rfl g4.1
    · refine ⟨-9223372036854775808, st, ?_, fun _ => ⟨st, ?_⟩⟩
      · simp only [fX10_loud, fX10_loud_s0, pw, Option.bind_some, b1_pos hk, fX10_loud_s7, fX10_loud_s10, b1_neg ha, fX10_loud_s16, fX10_loud_s19]
        rfl
      · simp only [fX11_loud, fX11_loud_s0, pinl (lo := 1) (hi := 30) (lo' := 1) (hi' := 30) (by decide) (by decide), Option.bind_some, b1_pos hk, fX11_loud_s9, fX11_loud_s12, pinl (lo := 0) (hi := 1) (lo' := 0) (hi' := 1) (by decide) (by decide), b1_neg ha, fX11_loud_s19, fX11_loud_s22]
        rfl
  · refine ⟨-9223372036854775808, st, ?_, fun _ => ⟨st, ?_⟩⟩
    · simp only [fX10_loud, fX10_loud_s0, pw, Option.bind_some, b1_neg hk, fX10_loud_s7, fX10_loud_s19]
      rfl
    · simp only [fX11_loud, fX11_loud_s0, pinl (lo := 1) (hi := 30) (lo' := 1) (hi' := 30) (by decide) (by decide), Option.bind_some, b1_neg hk, fX11_loud_s9, fX11_loud_s22]
      rfl
