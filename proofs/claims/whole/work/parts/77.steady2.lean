theorem d100 : ∀ b, b < 256 → ((nI b - 100).toInt64 = lN b - 100 ∧ (nI b - 100 = 0 ↔ b = 100) ∧ (lN b - 100 = 0 ↔ b = 100) ∧ ((-99 ≤ nI b - 100 ∧ nI b - 100 ≤ 99) ↔ (1 ≤ b ∧ b ≤ 199)) ∧ (((-99 : Int64) ≤ lN b - 100 ∧ lN b - 100 ≤ 99) ↔ (1 ≤ b ∧ b ≤ 199))) := by decide +kernel
theorem digits (v : Int64) : ∃ b : Nat → Nat, ∀ i, i < 8 → b i < 256 ∧ (((v.toUInt64 >>> (((8 : Int32) * nI i).toInt64.toUInt64 &&& Int64.toUInt64 63)).toInt64).toInt32) &&& 255 = nI (b i) ∧ (v >>> (((8 : Int32) * nI i).toInt64 &&& 63)) &&& 255 = lN (b i) := by
  refine ⟨fun i => if h : i < 8 then Classical.choose (by_long v i h) else 0, fun i h => ?_⟩
  have e := Classical.choose_spec (by_long v i h)
  simp only [h, dif_pos]
  exact ⟨by omega, e.2.1, e.2.2⟩
theorem c_dig (n : Nat) (v : Int64) (b : Nat → Nat) (hb : ∀ i, i < 8 → b i < 256 ∧ (((v.toUInt64 >>> (((8 : Int32) * nI i).toInt64.toUInt64 &&& Int64.toUInt64 63)).toInt64).toInt32) &&& 255 = nI (b i) ∧ (v >>> (((8 : Int32) * nI i).toInt64 &&& 63)) &&& 255 = lN (b i)) (k : Nat) (hk : k ≤ 4) (hn : 10 ≤ n) : ∀ (m i : Nat) (st : St), i ≤ k + 1 → k + 1 - i < m → (∀ j, j < i → st.2 48 j = lN (b j) - 100) →
    ∃ (r : Int32) (st1 : St), fX10_steady_L28 n m v (nI k) (nI i) st = some (r, st1) ∧ ((∀ j, i ≤ j → j ≤ k → (1 ≤ b j ∧ b j ≤ 199) ∧ (j = 0 → b j ≠ 100)) → r = stead k (fun j => lN (b j) - 100)) ∧ (¬ (∀ j, i ≤ j → j ≤ k → (1 ≤ b j ∧ b j ≤ 199) ∧ (j = 0 → b j ≠ 100)) → r = -2) := by
  intro m
  induction m with
  | zero => intro i st _ h; omega
  | succ m ih =>
    intro i st hi hm hp
    simp only [fX10_steady_L28, fX10_steady_s28]
    by_cases h : i = k + 1
    · subst h
      rw [if_pos (nI_lt (by omega) (by omega))]
      simp only [fX10_steady_s92]
      obtain ⟨st1, e⟩ := c_stead n hn k n st hk (by omega)
      refine ⟨_, st1, e, fun _ => stead_congr k _ _ (fun j hj => hp j (by omega)), fun w => absurd (fun j h1 h2 => by omega) w⟩
    · rw [if_neg (nI_nlt (by omega) (by omega))]
      obtain ⟨h1, h2, h3⟩ := hb i (by omega)
      obtain ⟨d1, d2, d3, d4, d5⟩ := d100 (b i) h1
      simp only [fX10_steady_s34, h2, pw, Option.bind_some, fX10_steady_s60, fX10_steady_s73]
      by_cases g : 1 ≤ b i ∧ b i ≤ 199
      · rw [b1_pos (d4.mpr g), if_neg (show ¬ (1 : Int32) = 0 by decide)]
        simp only [fX10_steady_s63, fX10_steady_s68, fX10_steady_s73]
        have ec : fX10_steady_s76 n (fX10_steady_L28 n m) v (nI k) (nI i) (nI (b i) - 100) st = fX10_steady_L28 n m v (nI k) (nI (i + 1)) (setJ st 48 i (lN (b i) - 100)) := by
          simp only [fX10_steady_s76, fX10_steady_s86, inb_nI (show i < 5 by omega) (by decide), nI_clamp (show i < 2 ^ 31 by omega), if_true, d1, nI_1]
        rw [ec]
        obtain ⟨r, st1, e1, e2, e3⟩ := ih (i + 1) (setJ st 48 i (lN (b i) - 100)) (by omega) (by omega) (fun j hj => by
          by_cases q : j = i
          · subst q; rw [sJ_at]
          · rw [sJ_k q]; exact hp j (by omega))
        by_cases z : i = 0 ∧ b i = 100
        · refine ⟨-2, st, ?_, fun w => absurd z.2 ((w i (Nat.le_refl _) (by omega)).2 z.1), fun _ => rfl⟩
          rw [if_pos (show nI i = 0 by rw [z.1]; rfl), if_pos (d2.mpr z.2)]
        · refine ⟨r, st1, ?_, fun w => e2 (fun j g1 g2 => w j (by omega) g2), fun w => e3 (fun q => w (fun j g1 g2 => by
            by_cases y : j = i
            · subst y; exact ⟨g, fun y0 y1 => z ⟨y0, y1⟩⟩
            · exact q j (by omega) g2))⟩
          by_cases y0 : i = 0
          · rw [if_pos (show nI i = 0 by rw [y0]; rfl), if_neg (fun q => z ⟨y0, d2.mp q⟩), e1]
          · rw [if_neg (nI_ne0 (by omega) (by omega)), e1]
      · refine ⟨-2, st, ?_, fun w => absurd (w i (Nat.le_refl _) (by omega)).1 g, fun _ => rfl⟩
        rw [b1_neg (fun q => g (d4.mp q)), if_pos rfl]
theorem m_dig (n : Nat) (v : Int64) (b : Nat → Nat) (hb : ∀ i, i < 8 → b i < 256 ∧ (((v.toUInt64 >>> (((8 : Int32) * nI i).toInt64.toUInt64 &&& Int64.toUInt64 63)).toInt64).toInt32) &&& 255 = nI (b i) ∧ (v >>> (((8 : Int32) * nI i).toInt64 &&& 63)) &&& 255 = lN (b i)) (k : Nat) (hk : k ≤ 4) (hn : 10 ≤ n) : ∀ (m i : Nat) (st : St), i ≤ k + 1 → k + 1 - i < m → (∀ j, j < i → st.2 163 j = lN (b j) - 100) →
    ∃ (r : Int32) (st1 : St), fX11_steady_L37 n m v (nI k) (nI i) st = some (r, st1) ∧ ((∀ j, i ≤ j → j ≤ k → (1 ≤ b j ∧ b j ≤ 199)) → b 0 ≠ 100 → r = stead k (fun j => lN (b j) - 100)) ∧ (¬ ((∀ j, i ≤ j → j ≤ k → (1 ≤ b j ∧ b j ≤ 199)) ∧ b 0 ≠ 100) → r = -2) := by
  intro m
  induction m with
  | zero => intro i st _ h; omega
  | succ m ih =>
    intro i st hi hm hp
    simp only [fX11_steady_L37, fX11_steady_s37]
    by_cases h : i = k + 1
    · subst h
      rw [if_pos (nI_lt (by omega) (by omega))]
      simp only [fX11_steady_s93, fX11_steady_s104, fX11_steady_s107]
      rw [if_pos (show inb 0 5 = true from rfl), show (0 : Int32).toNatClampNeg = 0 from rfl, hp 0 (by omega)]
      obtain ⟨-, -, d3, -, -⟩ := d100 (b 0) (hb 0 (by omega)).1
      by_cases z : b 0 = 100
      · refine ⟨-2, st, by rw [if_pos (d3.mpr z)], fun _ w => absurd z w, fun _ => rfl⟩
      · obtain ⟨st1, e⟩ := m_stead n hn k n st hk (by omega)
        refine ⟨_, st1, by rw [if_neg (fun q => z (d3.mp q))]; exact e, fun _ _ => stead_congr k _ _ (fun j hj => hp j (by omega)), fun w => absurd ⟨fun j h1 h2 => by omega, z⟩ w⟩
    · rw [if_neg (nI_nlt (by omega) (by omega))]
      obtain ⟨h1, h2, h3⟩ := hb i (by omega)
      obtain ⟨d1, d2, d3, d4, d5⟩ := d100 (b i) h1
      simp only [fX11_steady_s43, fX11_steady_s65, h3, pin, Option.bind_some, fX11_steady_s81, fX11_steady_s84, fX11_steady_s87, inb_nI (show i < 5 by omega) (by decide), nI_clamp (show i < 2 ^ 31 by omega), if_true, sJ_at]
      by_cases g : 1 ≤ b i ∧ b i ≤ 199
      · rw [b1_pos (d5.mpr g), if_neg (show ¬ (1 : Int32) = 0 by decide), nI_1]
        obtain ⟨r, st1, e1, e2, e3⟩ := ih (i + 1) (setJ st 163 i (lN (b i) - 100)) (by omega) (by omega) (fun j hj => by
          by_cases q : j = i
          · subst q; rw [sJ_at]
          · rw [sJ_k q]; exact hp j (by omega))
        refine ⟨r, st1, e1, fun w => e2 (fun j g1 g2 => w j (by omega) g2), fun w => e3 (fun q => w ⟨fun j g1 g2 => by
            by_cases y : j = i
            · subst y; exact g
            · exact q.1 j (by omega) g2, q.2⟩)⟩
      · refine ⟨-2, _, by rw [b1_neg (fun q => g (d5.mp q)), if_pos rfl], fun w => absurd (w i (Nat.le_refl _) (by omega)) g, fun _ => rfl⟩
theorem ends8 (v : Int64) (k : Nat) (hk : 1 ≤ k) (h4 : k ≤ 4) : ((v.toUInt64 >>> (((8 : Int32) * (nI k + 1)).toInt64.toUInt64 &&& Int64.toUInt64 63)).toInt64) = 0 ↔ (¬ v < 0 ∧ v >>> (((8 : Int32) * (nI k + 1)).toInt64 &&& 63) = 0) := by
  match k, hk, h4 with
  | 1, _, _ => exact ends_iff v _ _ 16 (by decide) (by decide) (by decide)
  | 2, _, _ => exact ends_iff v _ _ 24 (by decide) (by decide) (by decide)
  | 3, _, _ => exact ends_iff v _ _ 32 (by decide) (by decide) (by decide)
  | 4, _, _ => exact ends_iff v _ _ 40 (by decide) (by decide) (by decide)
theorem pends (n : Nat) (v : Int64) (a : Int32) (st : St) : fX10_endsBelow n v a st = some (b1 ((v.toUInt64 >>> (a.toInt64.toUInt64 &&& Int64.toUInt64 63)).toInt64 = 0), st) := by
  simp only [fX10_endsBelow, fX10_endsBelow_s0, fX10_endsBelow_s8, fX10_endsBelow_s12, fX10_endsBelow_s13]
  by_cases h : (v.toUInt64 >>> (a.toInt64.toUInt64 &&& Int64.toUInt64 63)).toInt64 = 0
  · rw [if_pos h, b1_pos h]; rfl
  · rw [if_neg h, b1_neg h]; rfl
theorem SPsteady (n : Nat) (hn : 100 ≤ n) : SP_steady n Inv := by
  intro v a st hI
  suffices hq : ∃ r st1 st2, fX10_steady n v a st = some (r, st1) ∧ fX11_steady n v a st1 = some (r, st2) by
    obtain ⟨r, st1, st2, h1, h2⟩ := hq
    exact ⟨r, st1, st2, h1, h2, (hI.ess (Ess.of (zX10_steady n v a st _ h1) rfl rfl)).ess (Ess.of (zX11_steady n v a st1 _ h2) rfl rfl)⟩
  by_cases h : 1 ≤ a ∧ a ≤ 4
  · obtain ⟨k, hk, rfl⟩ := nI_of2 (M := 4) (n := 4) rfl (le_of_nlt32.mpr (Int32.le_trans (by decide) h.1)) h.2
    have hk1 : 1 ≤ k := by
      have := h.1
      rw [Int32.le_iff_toInt_le, nI_toInt (by omega)] at this
      have e : (1 : Int32).toInt = 1 := rfl
      omega
    obtain ⟨b, hb⟩ := digits v
    have ee := ends8 v k hk1 hk
    by_cases he : ((v.toUInt64 >>> (((8 : Int32) * (nI k + 1)).toInt64.toUInt64 &&& Int64.toUInt64 63)).toInt64) = 0
    · obtain ⟨r, st1, e1, e2, e3⟩ := c_dig n v b hb k hk (by omega) n 0 st (by omega) (by omega) (fun j hj => by omega)
      obtain ⟨r', st2, g1, g2, g3⟩ := m_dig n v b hb k hk (by omega) n 0 st1 (by omega) (by omega) (fun j hj => by omega)
      have hrr : r' = r := by
        by_cases w : (∀ j, 0 ≤ j → j ≤ k → (1 ≤ b j ∧ b j ≤ 199)) ∧ b 0 ≠ 100
        · rw [g2 w.1 w.2, e2 (fun j h1 h2 => ⟨w.1 j h1 h2, fun q => by rw [q]; exact w.2⟩)]
        · rw [g3 w, e3 (fun q => w ⟨fun j h1 h2 => (q j h1 h2).1, (q 0 (Nat.le_refl _) (by omega)).2 rfl⟩)]
      subst hrr
      refine ⟨r', st1, st2, ?_, ?_⟩
      · simp only [fX10_steady, fX10_steady_s0, pw, Option.bind_some, b1_pos h, fX10_steady_s6, fX10_steady_s9, pends, b1_pos he, fX10_steady_s19, fX10_steady_s25]
        exact e1
      · simp only [fX11_steady, fX11_steady_s0, pinl (lo := 1) (hi := 4) (lo' := 1) (hi' := 4) (by decide) (by decide), Option.bind_some, b1_pos h, fX11_steady_s9, fX11_steady_s12, fX11_steady_s18, fX11_steady_s34]
        rw [if_neg (show ¬ (1 : Int32) = 0 by decide), if_neg (ee.mp he).1, if_pos (ee.mp he).2]
        exact g1
    · refine ⟨-2, st, st, ?_, ?_⟩
      · simp only [fX10_steady, fX10_steady_s0, pw, Option.bind_some, b1_pos h, fX10_steady_s6, fX10_steady_s9, pends, b1_neg he, fX10_steady_s19, fX10_steady_s22]
        rfl
      · simp only [fX11_steady, fX11_steady_s0, pinl (lo := 1) (hi := 4) (lo' := 1) (hi' := 4) (by decide) (by decide), Option.bind_some, b1_pos h, fX11_steady_s9, fX11_steady_s12, fX11_steady_s18, fX11_steady_s31]
        rw [if_neg (show ¬ (1 : Int32) = 0 by decide)]
        by_cases q : v < 0
        · rw [if_pos q]
        · rw [if_neg q, if_neg (fun w => he (ee.mpr ⟨q, w⟩))]
  · refine ⟨-2, st, st, ?_, ?_⟩
    · simp only [fX10_steady, fX10_steady_s0, pw, Option.bind_some, b1_neg h, fX10_steady_s6, fX10_steady_s22]; rfl
    · simp only [fX11_steady, fX11_steady_s0, pinl (lo := 1) (hi := 4) (lo' := 1) (hi' := 4) (by decide) (by decide), Option.bind_some, b1_neg h, fX11_steady_s9, fX11_steady_s31]; rfl
