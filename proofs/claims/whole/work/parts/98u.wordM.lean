/-! ===== rule: words, the reference; numbers ===== -/
def mkN (g : Nat → Bool) : Nat → Nat
  | 0 => 0
  | w + 1 => mkN g w + (if g w = true then 2 ^ w else 0)
theorem mkN_lt (g : Nat → Bool) : ∀ w, mkN g w < 2 ^ w := by
  intro w
  induction w with
  | zero => show 0 < 1; decide
  | succ w ih => rw [mkN, Nat.pow_succ]; split <;> omega
theorem mkN_bit (g : Nat → Bool) : ∀ W w, w < W → (mkN g W).testBit w = g w := by
  intro W
  induction W with
  | zero => intro w hw; omega
  | succ W ih =>
    intro w hw
    rw [mkN]
    by_cases q : g W = true
    · rw [if_pos q, Nat.add_comm]
      by_cases z : w = W
      · subst z; rw [Nat.testBit_two_pow_add_eq, Nat.testBit_lt_two_pow (mkN_lt g w), q]; rfl
      · rw [Nat.testBit_two_pow_add_gt (by omega)]; exact ih w (by omega)
    · rw [if_neg q, Nat.add_zero]
      by_cases z : w = W
      · subst z; rw [Nat.testBit_lt_two_pow (mkN_lt g w)]; cases h : g w <;> simp_all
      · exact ih w (by omega)
theorem mkN_zero (g : Nat → Bool) : ∀ W, mkN g W = 0 ↔ ∀ w, w < W → ¬ g w = true := by
  intro W
  induction W with
  | zero => exact ⟨fun _ w hw => absurd hw (by omega), fun _ => rfl⟩
  | succ W ih =>
    rw [mkN]
    have := Nat.two_pow_pos W
    constructor
    · intro h w hw
      by_cases q : g W = true
      · rw [if_pos q] at h; omega
      · by_cases z : w = W
        · subst z; exact q
        · exact ih.mp (by rw [if_neg q] at h; omega) w (by omega)
    · intro h
      rw [ih.mpr (fun w hw => h w (by omega)), if_neg (h W (by omega))]
theorem bit_ok : ∀ m, m < 512 → ∀ w, w < 9 → ((((nI m >>> (nI w &&& 31)) &&& 1) = (1 : Int32)) ↔ m.testBit w = true) := by decide +kernel
theorem or_ok : ∀ w, w < 9 → ∀ a, a < 256 → a < 2 ^ w → nI a ||| ((1 : Int32) <<< (nI w &&& 31)) = nI (a + 2 ^ w) := by decide +kernel
section
variable {T R n : Nat} {B Q : Nat → Int32}
theorem m_wd21 (k u : Nat) (may : Nat) (c : Int32) (K6 : Int32 → Int32 → Int32 → St → Option (Int32 × St)) (r : St) (g : Nat → Bool) (hmay : may < 512) (hu : u ≤ 5) (hL : LetI r) (hg : ∀ w, w < 9 → (g w = true ↔ (may.testBit w = true ∧ u < 5 ∧ lt w u = c ∧ 0 < c))) : ∀ (j w : Nat), w ≤ 9 → 9 - w < j → fX11_readWord_L21 n K6 j (nI k) (nI may) (nI u) c (nI (mkN g w)) (nI w) r = fX11_readWord_s96 n K6 (nI k) (nI u) (nI (mkN g 9)) r := by
  intro j
  induction j with
  | zero => intro w _ hj; omega
  | succ j ih =>
    intro w hw hj
    simp only [fX11_readWord_L21, fX11_readWord_s21]
    by_cases q : w = 9
    · subst q
      rw [if_pos (show (9 : Int32) ≤ nI 9 by decide)]
    · rw [if_neg (show ¬ (9 : Int32) ≤ nI w from nI_ge (b := 9) (by omega) (by decide))]
      have hw9 : w < 9 := by omega
      have go := ih (w + 1) (by omega) (by omega)
      rw [mkN] at go
      have lw := mkN_lt g w
      have l256 : mkN g w < 256 := by
        have : (2 : Nat) ^ w ≤ 2 ^ 8 := Nat.pow_le_pow_right (by decide) (by omega)
        omega
      have no : ¬ g w = true → fX11_readWord_s69 n K6 (fX11_readWord_L21 n K6 j) (nI k) (nI may) (nI u) c (nI (mkN g w)) (nI w) r = fX11_readWord_s96 n K6 (nI k) (nI u) (nI (mkN g 9)) r := fun h => by
        rw [if_neg h, Nat.add_zero] at go
        have e0 : nI (mkN g w) ||| 0 = nI (mkN g w) := Int32.or_zero
        simp only [fX11_readWord_s69, fX11_readWord_s70, if_true, fX11_readWord_s86, fX11_readWord_s87, nI_1, e0]
        exact go
      have yes : g w = true → fX11_readWord_s65 n K6 (fX11_readWord_L21 n K6 j) (nI k) (nI may) (nI u) c (nI (mkN g w)) (nI w) r = fX11_readWord_s96 n K6 (nI k) (nI u) (nI (mkN g 9)) r := fun h => by
        rw [if_pos h] at go
        simp only [fX11_readWord_s65, fX11_readWord_s70, if_neg (show ¬ (1 : Int32) = 0 by decide), fX11_readWord_s79, fX11_readWord_s87, nI_1, or_ok w hw9 _ l256 lw]
        exact go
      simp only [fX11_readWord_s28]
      by_cases z : may.testBit w = true
      · rw [if_pos ((bit_ok may hmay w hw9).mpr z)]
        simp only [fX11_readWord_s38]
        by_cases y : u = 5
        · rw [if_pos (show (5 : Int32) ≤ nI u from by rw [y]; decide)]
          exact no (fun h => by have := ((hg w hw9).mp h).2.1; omega)
        · rw [if_neg (show ¬ (5 : Int32) ≤ nI u from nI_ge (b := 5) (by omega) (by decide))]
          have ei : (6 : Int32) * nI w + nI u = nI (6 * w + u) := by rw [show (6 : Int32) = nI 6 from rfl, pk_mul, nI_add]
          have el : r.1 156 (6 * w + u) = lt w u := hL (6 * w + u) (by omega)
          simp only [fX11_readWord_s43, ei, inb_nI (show 6 * w + u < 54 by omega) (by decide), nI_clamp (show 6 * w + u < 2 ^ 31 by omega), if_true, el]
          by_cases x : lt w u = c
          · rw [if_pos x]
            simp only [fX11_readWord_s60]
            by_cases v : c ≤ 0
            · rw [if_pos v]
              exact no (fun h => absurd ((hg w hw9).mp h).2.2.2 (le_of_nlt32.mpr v))
            · rw [if_neg v]
              exact yes ((hg w hw9).mpr ⟨z, by omega, x, Classical.byContradiction fun t => v (le_of_nlt32.mp t)⟩)
          · rw [if_neg x]
            exact no (fun h => x ((hg w hw9).mp h).2.2.1)
      · rw [if_neg (fun h => z ((bit_ok may hmay w hw9).mp h))]
        exact no (fun h => z ((hg w hw9).mp h).1)
theorem m_wd116 (k u : Nat) (lf : Nat) (K6 : Int32 → Int32 → Int32 → St → Option (Int32 × St)) (r : St) (hlf : lf < 512) (hu : u ≤ 5) (hL : LetI r) : ∀ (j w : Nat), w ≤ 9 → 9 - w < j → (∀ v, v < w → ¬ (lf.testBit v = true ∧ lt v u = 0)) → (∃ v, v < 9 ∧ lf.testBit v = true ∧ lt v u = 0 ∧ fX11_readWord_L116 n K6 j (nI k) (nI lf) (nI u) (nI w) r = some (nI (k + u), setI r 130 38 (nI v))) ∨ ((∀ v, v < 9 → ¬ (lf.testBit v = true ∧ lt v u = 0)) ∧ fX11_readWord_L116 n K6 j (nI k) (nI lf) (nI u) (nI w) r = K6 (nI k) (nI lf) (nI u) r) := by
  intro j
  induction j with
  | zero => intro w _ hj; omega
  | succ j ih =>
    intro w hw hj h0
    simp only [fX11_readWord_L116, fX11_readWord_s116]
    by_cases q : w = 9
    · subst q
      rw [if_pos (show (9 : Int32) ≤ nI 9 by decide)]
      exact Or.inr ⟨h0, rfl⟩
    · rw [if_neg (show ¬ (9 : Int32) ≤ nI w from nI_ge (b := 9) (by omega) (by decide))]
      have hw9 : w < 9 := by omega
      have ei : (6 : Int32) * nI w + nI u = nI (6 * w + u) := by rw [show (6 : Int32) = nI 6 from rfl, pk_mul, nI_add]
      have el : r.1 156 (6 * w + u) = lt w u := hL (6 * w + u) (by omega)
      have no : ¬ (lf.testBit w = true ∧ lt w u = 0) → (∃ v, v < 9 ∧ lf.testBit v = true ∧ lt v u = 0 ∧ fX11_readWord_s158 n K6 (fX11_readWord_L116 n K6 j) (nI k) (nI lf) (nI u) (nI w) r = some (nI (k + u), setI r 130 38 (nI v))) ∨ ((∀ v, v < 9 → ¬ (lf.testBit v = true ∧ lt v u = 0)) ∧ fX11_readWord_s158 n K6 (fX11_readWord_L116 n K6 j) (nI k) (nI lf) (nI u) (nI w) r = K6 (nI k) (nI lf) (nI u) r) := fun h => by
        simp only [fX11_readWord_s158, nI_1]
        exact ih (w + 1) (by omega) (by omega) (fun v hv => by
          by_cases z : v = w
          · subst z; exact h
          · exact h0 v (by omega))
      simp only [fX11_readWord_s123]
      by_cases z : lf.testBit w = true
      · rw [if_pos ((bit_ok lf hlf w hw9).mpr z)]
        simp only [fX11_readWord_s133, ei, inb_nI (show 6 * w + u < 54 by omega) (by decide), nI_clamp (show 6 * w + u < 2 ^ 31 by omega), if_true, el]
        by_cases x : lt w u = 0
        · rw [if_pos x]
          exact Or.inl ⟨w, hw9, z, x, by simp only [fX11_readWord_s148, fX11_readWord_s154, nI_add]⟩
        · rw [if_neg x]; exact no (fun h => x h.2)
      · rw [if_neg (fun h => z ((bit_ok lf hlf w hw9).mp h))]; exact no (fun h => z h.1)
theorem m_wd6 (k : Nat) (r : St) (hn : 200 ≤ n) (hB : T ≤ 120) (hk : k ≤ 120) (hL : LetI r) (hT : r.1 130 32 = nI T) (hb : ∀ j, j < T → r.1 155 j = B j) : ∀ (d u : Nat), u + d = 5 → (∀ w, w < 9 → ¬ (PWd (fun i => bt B T (k + i)) w (wl w) ∧ wl w ≤ u)) → (∃ w, w < 9 ∧ PWd (fun i => bt B T (k + i)) w u) → ∀ j, d + 1 < j → (∃ w, w < 9 ∧ PWd (fun i => bt B T (k + i)) w (wl w) ∧ fX11_readWord_L6 n j (nI k) (nI (mkN (fun w => decide (PWd (fun i => bt B T (k + i)) w u)) 9)) (nI u) r = some (nI (k + wl w), setI r 130 38 (nI w))) ∨ ((∀ w, w < 9 → ¬ PWd (fun i => bt B T (k + i)) w (wl w)) ∧ ∃ m, m ≤ 5 ∧ (∃ w, w < 9 ∧ PWd (fun i => bt B T (k + i)) w m) ∧ (∀ w, w < 9 → ¬ PWd (fun i => bt B T (k + i)) w (m + 1)) ∧ fX11_readWord_L6 n j (nI k) (nI (mkN (fun w => decide (PWd (fun i => bt B T (k + i)) w u)) 9)) (nI u) r = some (-1 - nI k - nI m, r)) := by
  intro d
  induction d with
  | zero =>
    intro u hu hno hex j hj
    have u5 : u = 5 := by omega
    subst u5
    obtain ⟨w, hw, hP⟩ := hex
    have hl := (wf2 w hw).2.2.2
    have : wl w = 5 := by have := hP.1; omega
    exact absurd ⟨by rw [this]; exact hP, by omega⟩ (hno w hw)
  | succ d ih =>
    intro u hu hno hex j hj
    obtain ⟨i, rfl⟩ : ∃ i, j = i + 1 := ⟨j - 1, by omega⟩
    have m9 : ∀ g, mkN g 9 < 512 := fun g => mkN_lt g 9
    have hbt : fX11_byteAt n (nI k + nI u) r = some (bt B T (k + u), r) := by rw [nI_add]; exact m_byteAt n (k + u) r hT hb hB (by omega)
    have eg : ∀ w, w < 9 → (decide (PWd (fun i => bt B T (k + i)) w (u + 1)) = true ↔ ((mkN (fun w => decide (PWd (fun i => bt B T (k + i)) w u)) 9).testBit w = true ∧ u < 5 ∧ lt w u = bt B T (k + u) ∧ 0 < bt B T (k + u))) := fun w hw => by
      rw [mkN_bit _ 9 w hw, decide_eq_true_iff, decide_eq_true_iff]
      constructor
      · intro h
        have h0 := h.mono (show u ≤ u + 1 by omega)
        have h1 := h0.succ.mp h
        have h2 : bt B T (k + u) = lt w u := h1.2
        have h3 := (wf1 w hw u (by omega) h1.1).2.2.1
        exact ⟨h0, by omega, h2.symm, by rw [h2]; exact h3⟩
      · rintro ⟨h0, h1, h2, h3⟩
        refine h0.succ.mpr ⟨?_, h2.symm⟩
        by_cases z : u < wl w
        · exact z
        · have := (wf3 w hw u (by omega)).mpr (by omega)
          rw [← h2, this] at h3
          exact absurd h3 (by decide)
    have e21 := m_wd21 (n := n) k u (mkN (fun w => decide (PWd (fun i => bt B T (k + i)) w u)) 9) (bt B T (k + u)) (fX11_readWord_L6 n i) r (fun w => decide (PWd (fun i => bt B T (k + i)) w (u + 1))) (m9 _) (by omega) hL eg n 0 (by omega) (by omega)
    rw [show nI (mkN (fun w => decide (PWd (fun i => bt B T (k + i)) w (u + 1))) 0) = 0 from rfl, show nI 0 = 0 from rfl] at e21
    simp only [fX11_readWord_L6, fX11_readWord_s6, hbt, Option.bind_some, fX11_readWord_s13, e21, fX11_readWord_s96]
    by_cases z : mkN (fun w => decide (PWd (fun i => bt B T (k + i)) w (u + 1))) 9 = 0
    · have hz := (mkN_zero _ 9).mp z
      have hz' : ∀ w, w < 9 → ¬ PWd (fun i => bt B T (k + i)) w (u + 1) := fun w hw h => hz w hw (decide_eq_true h)
      rw [z, if_pos (show nI 0 = 0 from rfl)]
      refine Or.inr ⟨fun w hw h => ?_, u, by omega, hex, hz', rfl⟩
      by_cases y : wl w ≤ u
      · exact hno w hw ⟨h, y⟩
      · exact hz' w hw (h.mono (by omega))
    · rw [if_neg (nI_ne0 (show 0 < mkN (fun w => decide (PWd (fun i => bt B T (k + i)) w (u + 1))) 9 by omega) (by have := m9 (fun w => decide (PWd (fun i => bt B T (k + i)) w (u + 1))); omega))]
      simp only [fX11_readWord_s107, nI_1]
      have hne : ∃ w, w < 9 ∧ PWd (fun i => bt B T (k + i)) w (u + 1) := Classical.byContradiction fun hh => z ((mkN_zero _ 9).mpr (fun w hw h => hh ⟨w, hw, of_decide_eq_true h⟩))
      rcases m_wd116 (n := n) k (u + 1) (mkN (fun w => decide (PWd (fun i => bt B T (k + i)) w (u + 1))) 9) (fX11_readWord_L6 n i) r (m9 _) (by omega) hL n 0 (by omega) (by omega) (fun v hv => absurd hv (by omega)) with ⟨v, hv, h1, h2, h3⟩ | ⟨h1, h2⟩
      · rw [mkN_bit _ 9 v hv, decide_eq_true_iff] at h1
        have hl := (wf3 v hv (u + 1) (by omega)).mp h2
        have hlv : wl v = u + 1 := by have := h1.1; omega
        refine Or.inl ⟨v, hv, by rw [hlv]; exact h1, ?_⟩
        rw [hlv]
        rw [show nI 0 = 0 from rfl] at h3
        exact h3
      · rw [show nI 0 = 0 from rfl] at h2
        rw [h2]
        refine ih (u + 1) (by omega) (fun w hw h => ?_) hne i (by omega)
        by_cases y : wl w ≤ u
        · exact hno w hw ⟨h.1, y⟩
        · have hlw : wl w = u + 1 := by have := h.2; omega
          refine h1 w hw ⟨by rw [mkN_bit _ 9 w hw, decide_eq_true_iff]; exact h.1.mono (by omega), (wf3 w hw (u + 1) (by omega)).mpr (by omega)⟩
theorem m_word (k : Nat) (r : St) (hn : 200 ≤ n) (hB : T ≤ 120) (hk : k ≤ 120) (hL : LetI r) (hT : r.1 130 32 = nI T) (hb : ∀ j, j < T → r.1 155 j = B j) : (∃ w, w < 9 ∧ PWd (fun i => bt B T (k + i)) w (wl w) ∧ fX11_readWord n (nI k) r = some (nI (k + wl w), setI r 130 38 (nI w))) ∨ ((∀ w, w < 9 → ¬ PWd (fun i => bt B T (k + i)) w (wl w)) ∧ ∃ m, m ≤ 5 ∧ (∃ w, w < 9 ∧ PWd (fun i => bt B T (k + i)) w m) ∧ (∀ w, w < 9 → ¬ PWd (fun i => bt B T (k + i)) w (m + 1)) ∧ fX11_readWord n (nI k) r = some (-1 - nI k - nI m, r)) := by
  have h0 : ∀ w, PWd (fun i => bt B T (k + i)) w 0 := fun w => ⟨Nat.zero_le _, fun i hi => absurd hi (by omega)⟩
  have e511 : mkN (fun w => decide (PWd (fun i => bt B T (k + i)) w 0)) 9 = 511 := by
    have : ∀ w, decide (PWd (fun i => bt B T (k + i)) w 0) = true := fun w => decide_eq_true (h0 w)
    simp only [mkN, this, if_true]
  have := m_wd6 (n := n) k r hn hB hk hL hT hb 5 0 (by omega) (fun w hw h => by have := (wf2 w hw).2.2.2.1; omega) ⟨0, by decide, h0 0⟩ n (by omega)
  rw [e511] at this
  simp only [fX11_readWord, fX11_readWord_s0]
  exact this
/-- one number of letters is the longest -/
theorem wd_max {β : Nat → Int32} {a b : Nat} (h1 : ∃ w, w < 9 ∧ PWd β w a) (h2 : ∀ w, w < 9 → ¬ PWd β w (a + 1)) (g1 : ∃ w, w < 9 ∧ PWd β w b) (g2 : ∀ w, w < 9 → ¬ PWd β w (b + 1)) : a = b := by
  obtain ⟨w, hw, p⟩ := h1
  obtain ⟨v, hv, q⟩ := g1
  rcases Nat.lt_trichotomy a b with z | z | z
  · exact absurd (q.mono (show a + 1 ≤ b by omega)) (h2 v hv)
  · exact z
  · exact absurd (p.mono (show b + 1 ≤ a by omega)) (g2 w hw)
end
