/-! ===== worst: the reference; both ===== -/
def Kept (X st : St) : Prop := (st.2 168 0 = (X.1 130 12).toInt64 ∧ st.2 168 1 = X.2 130 13 ∧ st.2 168 2 = X.2 130 14) ∧ (∀ i, i < 8 → st.1 169 i = X.1 140 i ∧ st.2 170 (0 + i) = X.2 141 i ∧ st.2 170 (8 + i) = X.2 145 i ∧ st.2 170 (16 + i) = X.2 146 i ∧ st.2 170 (24 + i) = X.2 147 i ∧ st.2 170 (32 + i) = X.2 148 i) ∧ (∀ i, i < 64 → st.2 171 i = X.2 142 i) ∧ (∀ i, i < 56 → st.2 172 i = X.2 143 i) ∧ (∀ i, i < 32 → st.2 173 i = X.2 144 i) ∧ ∀ i, i < 320 → st.2 174 i = X.2 149 i ∧ st.2 175 i = X.2 150 i
def Laid (X st : St) : Prop := (st.1 130 12 = X.1 130 12 ∧ st.2 130 13 = X.2 130 13 ∧ st.2 130 14 = X.2 130 14) ∧ (∀ i, i < 8 → st.1 140 i = X.1 140 i ∧ st.2 141 i = X.2 141 i ∧ st.2 145 i = X.2 145 i ∧ st.2 146 i = X.2 146 i ∧ st.2 147 i = X.2 147 i ∧ st.2 148 i = X.2 148 i) ∧ (∀ i, i < 64 → st.2 142 i = X.2 142 i) ∧ (∀ i, i < 56 → st.2 143 i = X.2 143 i) ∧ (∀ i, i < 32 → st.2 144 i = X.2 144 i) ∧ ∀ i, i < 320 → st.2 149 i = X.2 149 i ∧ st.2 150 i = X.2 150 i
theorem m_keepsF (n : Nat) (hn : 2 ^ 27 ≤ n) (st : St) : ∃ st1, fX11_keeps n st = some ((), st1) ∧ Kept st st1 := by
  have t0 : (0 : Int32).toNatClampNeg = 0 := rfl
  have t1 : (1 : Int32).toNatClampNeg = 1 := rfl
  have t2 : (2 : Int32).toNatClampNeg = 2 := rfl
  have b0 : inb 0 3 = true := rfl
  have b1 : inb 1 3 = true := rfl
  have b2 : inb 2 3 = true := rfl
  simp only [fX11_keeps, fX11_keeps_s0, fX11_keeps_s11, fX11_keeps_s21, fX11_keeps_s31, t0, t1, t2, b0, b1, b2, if_true]
  obtain ⟨Y, eY⟩ : ∃ Y, Y = setJ (setJ (setJ st 168 0 (st.1 130 12).toInt64) 168 1 ((setJ st 168 0 (st.1 130 12).toInt64).2 130 13)) 168 2 ((setJ (setJ st 168 0 (st.1 130 12).toInt64) 168 1 ((setJ st 168 0 (st.1 130 12).toInt64).2 130 13)).2 130 14) := ⟨_, rfl⟩
  rw [← eY]
  have y1 : Y.1 = st.1 := by rw [eY]; rfl
  have yo : ∀ o, o ≠ 168 → Y.2 o = st.2 o := fun o ho => by rw [eY, sJ_o ho, sJ_o ho, sJ_o ho]
  have y0 : Y.2 168 0 = (st.1 130 12).toInt64 ∧ Y.2 168 1 = st.2 130 13 ∧ Y.2 168 2 = st.2 130 14 := by
    rw [eY]
    refine ⟨by rw [sJ_k (by decide), sJ_k (by decide), sJ_at], by rw [sJ_k (by decide), sJ_at, sJ_o (by decide)], by rw [sJ_at, sJ_o (by decide), sJ_o (by decide)]⟩
  obtain ⟨s1, a0, a1, a2, a3⟩ := m_keeps33 n n 0 Y (by omega) (by omega) (fun i hi => absurd hi (by omega))
  rw [show nI 0 = 0 from rfl] at a0
  rw [a0]
  simp only [fX11_keeps_s129]
  obtain ⟨s2, c0, c1, c2, c3⟩ := m_keeps131 n n 0 s1 (by omega) (by omega) (fun i hi => absurd hi (by omega))
  rw [show nI 0 = 0 from rfl] at c0
  rw [c0]
  simp only [fX11_keeps_s155]
  obtain ⟨s3, d0, d1, d2, d3⟩ := m_keeps157 n n 0 s2 (by omega) (by omega) (fun i hi => absurd hi (by omega))
  rw [show nI 0 = 0 from rfl] at d0
  rw [d0]
  simp only [fX11_keeps_s181]
  obtain ⟨s4, e0, e1, e2, e3⟩ := m_keeps183 n n 0 s3 (by omega) (by omega) (fun i hi => absurd hi (by omega))
  rw [show nI 0 = 0 from rfl] at e0
  rw [e0]
  simp only [fX11_keeps_s207]
  obtain ⟨s5, f0, f1, f2, f3⟩ := m_keeps209 n n 0 s4 (by omega) (by omega) (fun i hi => absurd hi (by omega))
  rw [show nI 0 = 0 from rfl] at f0
  rw [f0]
  simp only [fX11_keeps_s246]
  have J : ∀ o, o ≠ 168 → o ≠ 170 → o ≠ 171 → o ≠ 172 → o ≠ 173 → o ≠ 174 → o ≠ 175 → s5.2 o = st.2 o := fun o o1 o2 o3 o4 o5 o6 o7 => by rw [f2 o o6 o7, e2 o o5, d2 o o4, c2 o o3, a2 o o2, yo o o1]
  have I : ∀ o, o ≠ 169 → s5.1 o = st.1 o := fun o o1 => by rw [f1, e1, d1, c1, a1 o o1, y1]
  have q170 : s5.2 170 = s1.2 170 := by rw [f2 170 (by decide) (by decide), e2 170 (by decide), d2 170 (by decide), c2 170 (by decide)]
  have q169 : s5.1 169 = s1.1 169 := by rw [f1, e1, d1, c1]
  have q168 : s5.2 168 = Y.2 168 := by rw [f2 168 (by decide) (by decide), e2 168 (by decide), d2 168 (by decide), c2 168 (by decide), a2 168 (by decide)]
  refine ⟨s5, rfl, ⟨by rw [q168]; exact y0.1, by rw [q168]; exact y0.2.1, by rw [q168]; exact y0.2.2⟩, fun i hi => ?_, fun i hi => ?_, fun i hi => ?_, fun i hi => ?_, fun i hi => ?_⟩
  · obtain ⟨g0, g1, g2, g3, g4, g5⟩ := a3 i hi
    rw [q169, q170, g0, g1, g2, g3, g4, g5, a1 140 (by decide), y1, a2 141 (by decide), a2 145 (by decide), a2 146 (by decide), a2 147 (by decide), a2 148 (by decide), yo 141 (by decide), yo 145 (by decide), yo 146 (by decide), yo 147 (by decide), yo 148 (by decide)]
    exact ⟨rfl, rfl, rfl, rfl, rfl, rfl⟩
  · rw [f2 171 (by decide) (by decide), e2 171 (by decide), d2 171 (by decide), c3 i hi, c2 142 (by decide), a2 142 (by decide), yo 142 (by decide)]
  · rw [f2 172 (by decide) (by decide), e2 172 (by decide), d3 i hi, d2 143 (by decide), c2 143 (by decide), a2 143 (by decide), yo 143 (by decide)]
  · rw [f2 173 (by decide) (by decide), e3 i hi, e2 144 (by decide), d2 144 (by decide), c2 144 (by decide), a2 144 (by decide), yo 144 (by decide)]
  · obtain ⟨g1, g2⟩ := f3 i hi
    rw [g1, g2, J 149 (by decide) (by decide) (by decide) (by decide) (by decide) (by decide) (by decide), J 150 (by decide) (by decide) (by decide) (by decide) (by decide) (by decide) (by decide)]
    exact ⟨rfl, rfl⟩
theorem m_laysF (n : Nat) (hn : 2 ^ 27 ≤ n) (X st : St) (hK : Kept X st) : ∃ st1, fX11_lays n st = some ((), st1) ∧ Laid X st1 := by
  have t0 : (0 : Int32).toNatClampNeg = 0 := rfl
  have t1 : (1 : Int32).toNatClampNeg = 1 := rfl
  have t2 : (2 : Int32).toNatClampNeg = 2 := rfl
  have b0 : inb 0 3 = true := rfl
  have b1 : inb 1 3 = true := rfl
  have b2 : inb 2 3 = true := rfl
  obtain ⟨⟨h0, h1, h2⟩, h8, h64, h56, h32, h320⟩ := hK
  simp only [fX11_lays, fX11_lays_s0, fX11_lays_s11, fX11_lays_s21, fX11_lays_s31, t0, t1, t2, b0, b1, b2, if_true]
  obtain ⟨Y, eY⟩ : ∃ Y, Y = setJ (setJ (setI st 130 12 (st.2 168 0).toInt32) 130 13 ((setI st 130 12 (st.2 168 0).toInt32).2 168 1)) 130 14 ((setJ (setI st 130 12 (st.2 168 0).toInt32) 130 13 ((setI st 130 12 (st.2 168 0).toInt32).2 168 1)).2 168 2) := ⟨_, rfl⟩
  rw [← eY]
  have y1 : ∀ o, o ≠ 130 → Y.1 o = st.1 o := fun o ho => by rw [eY, sJ_1, sJ_1, sI_o ho]
  have yo : ∀ o, o ≠ 130 → Y.2 o = st.2 o := fun o ho => by rw [eY, sJ_o ho, sJ_o ho, sI_2]
  have y0 : Y.1 130 12 = X.1 130 12 ∧ Y.2 130 13 = X.2 130 13 ∧ Y.2 130 14 = X.2 130 14 := by
    rw [eY]
    refine ⟨by rw [sJ_1, sJ_1, sI_at, h0, Int32.toInt32_toInt64], by rw [sJ_k (by decide), sJ_at, sI_2, h1], by rw [sJ_at, sJ_o (by decide), sI_2, h2]⟩
  obtain ⟨s1, a0, a1, a2, a3⟩ := m_lays33 n n 0 Y (by omega) (by omega) (fun i hi => absurd hi (by omega))
  rw [show nI 0 = 0 from rfl] at a0
  rw [a0]
  simp only [fX11_lays_s129]
  obtain ⟨s2, c0, c1, c2, c3⟩ := m_lays131 n n 0 s1 (by omega) (by omega) (fun i hi => absurd hi (by omega))
  rw [show nI 0 = 0 from rfl] at c0
  rw [c0]
  simp only [fX11_lays_s155]
  obtain ⟨s3, d0, d1, d2, d3⟩ := m_lays157 n n 0 s2 (by omega) (by omega) (fun i hi => absurd hi (by omega))
  rw [show nI 0 = 0 from rfl] at d0
  rw [d0]
  simp only [fX11_lays_s181]
  obtain ⟨s4, e0, e1, e2, e3⟩ := m_lays183 n n 0 s3 (by omega) (by omega) (fun i hi => absurd hi (by omega))
  rw [show nI 0 = 0 from rfl] at e0
  rw [e0]
  simp only [fX11_lays_s207]
  obtain ⟨s5, f0, f1, f2, f3⟩ := m_lays209 n n 0 s4 (by omega) (by omega) (fun i hi => absurd hi (by omega))
  rw [show nI 0 = 0 from rfl] at f0
  rw [f0]
  simp only [fX11_lays_s246]
  have back : ∀ o, o ≠ 142 → o ≠ 143 → o ≠ 144 → o ≠ 149 → o ≠ 150 → s5.2 o = s1.2 o := fun o o1 o2 o3 o4 o5 => by rw [f2 o o4 o5, e2 o o3, d2 o o2, c2 o o1]
  have bI : s5.1 = s1.1 := by rw [f1, e1, d1, c1]
  have k2 : ∀ o, 168 ≤ o → s5.2 o = st.2 o := fun o ho => by rw [back o (by omega) (by omega) (by omega) (by omega) (by omega), a2 o (by omega) (by omega) (by omega) (by omega) (by omega), yo o (by omega)]
  refine ⟨s5, rfl, ⟨by rw [bI, a1 130 (by decide)]; exact y0.1, by rw [back 130 (by decide) (by decide) (by decide) (by decide) (by decide), a2 130 (by decide) (by decide) (by decide) (by decide) (by decide)]; exact y0.2.1, by rw [back 130 (by decide) (by decide) (by decide) (by decide) (by decide), a2 130 (by decide) (by decide) (by decide) (by decide) (by decide)]; exact y0.2.2⟩, fun i hi => ?_, fun i hi => ?_, fun i hi => ?_, fun i hi => ?_, fun i hi => ?_⟩
  · obtain ⟨g0, g1, g2, g3, g4, g5⟩ := a3 i hi
    obtain ⟨w0, w1, w2, w3, w4, w5⟩ := h8 i hi
    rw [bI, back 141 (by decide) (by decide) (by decide) (by decide) (by decide), back 145 (by decide) (by decide) (by decide) (by decide) (by decide), back 146 (by decide) (by decide) (by decide) (by decide) (by decide), back 147 (by decide) (by decide) (by decide) (by decide) (by decide), back 148 (by decide) (by decide) (by decide) (by decide) (by decide), g0, g1, g2, g3, g4, g5, a1 169 (by decide), y1 169 (by decide), a2 170 (by decide) (by decide) (by decide) (by decide) (by decide), yo 170 (by decide)]
    exact ⟨w0, w1, w2, w3, w4, w5⟩
  · rw [f2 142 (by decide) (by decide), e2 142 (by decide), d2 142 (by decide), c3 i hi, c2 171 (by decide), a2 171 (by decide) (by decide) (by decide) (by decide) (by decide), yo 171 (by decide)]
    exact h64 i hi
  · rw [f2 143 (by decide) (by decide), e2 143 (by decide), d3 i hi, d2 172 (by decide), c2 172 (by decide), a2 172 (by decide) (by decide) (by decide) (by decide) (by decide), yo 172 (by decide)]
    exact h56 i hi
  · rw [f2 144 (by decide) (by decide), e3 i hi, e2 173 (by decide), d2 173 (by decide), c2 173 (by decide), a2 173 (by decide) (by decide) (by decide) (by decide) (by decide), yo 173 (by decide)]
    exact h32 i hi
  · obtain ⟨g1, g2⟩ := f3 i hi
    rw [g1, g2, k2 174 (by decide), k2 175 (by decide)]
    exact h320 i hi
theorem mfl_laid {X st : St} {D : WD} {md sd : Nat} {cst : Nat → Int64} (h : MFl X D md sd cst) (hL : Laid X st) : MFl st D md sd cst := by
  obtain ⟨⟨l0, l1, l2⟩, l8, l64, l56, l32, l320⟩ := hL
  obtain ⟨⟨m0, mm, ms⟩, ⟨m1, m3⟩, m2, m4, m6, m78, m5, m90, mz⟩ := h
  refine ⟨⟨by rw [l0]; exact m0, by rw [l1]; exact mm, by rw [l2]; exact ms⟩, ⟨fun s hs => by rw [(l8 s hs).2.1]; exact m1 s hs, fun s i hs hi => by rw [l56 _ (by omega)]; exact m3 s i hs hi⟩, fun s c hs hc => by rw [l64 _ (by omega)]; exact m2 s c hs hc, fun c d hc hd => by rw [l32 _ (by omega)]; exact m4 c d hc hd, fun s hs => by rw [(l8 s hs).2.2.2.1]; exact m6 s hs, fun s hs => by rw [(l8 s hs).2.2.2.2.1, (l8 s hs).2.2.2.2.2]; exact m78 s hs, fun s hs => by rw [(l8 s hs).2.2.1]; exact m5 s hs, fun s u hs hu huw => by rw [(l320 _ (by omega)).1, (l320 _ (by omega)).2]; exact m90 s u hs hu huw, fun s r hs hr hr4 => by rw [(l320 _ (by omega)).1, (l320 _ (by omega)).2]; exact mz s r hs hr hr4⟩
theorem Kept.k {X st st1 : St} (h : Kept X st) (h1 : st1.1 169 = st.1 169) (h2 : ∀ o, 168 ≤ o → o ≤ 175 → st1.2 o = st.2 o) : Kept X st1 := by
  unfold Kept at h ⊢
  rw [h1, h2 168 (by omega) (by omega), h2 170 (by omega) (by omega), h2 171 (by omega) (by omega), h2 172 (by omega) (by omega), h2 173 (by omega) (by omega), h2 174 (by omega) (by omega), h2 175 (by omega) (by omega)]
  exact h
/-! the values -/
def sumJ (f : Nat → Int64) : Nat → Int64
  | 0 => 0
  | k + 1 => sumJ f k + f k
theorem sumJ_cut {f : Nat → Int64} {N : Nat} : ∀ k, N ≤ k → (∀ s, N ≤ s → s < k → f s = 0) → sumJ f k = sumJ f N := by
  intro k
  induction k with
  | zero => intro h _; rw [show N = 0 by omega]
  | succ k ih =>
    intro h h0
    by_cases q : N = k + 1
    · rw [q]
    · rw [sumJ, h0 k (by omega) (by omega), Int64.add_zero]
      exact ih (by omega) (fun s h1 h2 => h0 s h1 (by omega))
theorem sumJ_nat {f : Nat → Int64} {B : Nat} : ∀ k, (∀ s, s < k → ∃ c, c ≤ B ∧ f s = lN c) → ∃ c, c ≤ k * B ∧ sumJ f k = lN c := by
  intro k
  induction k with
  | zero => intro _; exact ⟨0, by omega, rfl⟩
  | succ k ih =>
    intro h
    obtain ⟨c, hc, e⟩ := ih (fun s hs => h s (by omega))
    obtain ⟨d, hd, e2⟩ := h k (by omega)
    refine ⟨c + d, ?_, by rw [sumJ, e, e2, lN_add]⟩
    rw [Nat.add_mul]; omega
def mxN (f : Nat → Nat) : Nat → Nat
  | 0 => 0
  | k + 1 => if mxN f k < f k then f k else mxN f k
theorem mxN_le {f : Nat → Nat} {B : Nat} : ∀ k, (∀ i, i < k → f i ≤ B) → mxN f k ≤ B := by
  intro k
  induction k with
  | zero => intro _; exact Nat.zero_le _
  | succ k ih =>
    intro h
    have h1 := ih (fun i hi => h i (by omega))
    have h2 := h k (by omega)
    rw [mxN]; split <;> omega
noncomputable def ogN (D : WD) (E : PD) (s m lo hi row i : Nat) : Nat := oW (rwD D E s m lo hi row i) E 0
noncomputable def valJ (D : WD) (E : PD) (s m lo hi : Nat) (cst : Nat → Int64) (what row : Nat) : Int64 := if what = 0 then sumJ (rwC D E s m lo hi row cst m) 8 else lN (mxN (ogN D E s m lo hi row) m)
noncomputable def bR (val : Nat → Int64) : Nat → Int64 × Nat
  | 0 => (-1, 0)
  | k + 1 => if val k ≤ (bR val k).1 then bR val k else (val k, k)
theorem bR_lt (val : Nat → Int64) : ∀ k, (bR val k).2 ≤ k := by
  intro k
  induction k with
  | zero => exact Nat.le_refl _
  | succ k ih =>
    rw [bR]
    split
    · omega
    · show k ≤ k + 1; omega
section
variable {D : WD} {E : PD} {R fs md sd : Nat} {cst : Nat → Int64}
theorem og_le (hW : PW D E R fs md sd cst) (s m lo hi row i : Nat) : ogN D E s m lo hi row i ≤ 9999 := by
  unfold ogN
  have g := rw_dm D E s m lo hi row i
  have hE := hW.2.2.1
  rw [← g.2.2.1] at hE
  exact w_o hE (by rw [g.2.2.1]; have := hW.1.1.2.1; omega)
theorem val_pos (hW : PW D E R fs md sd cst) (s m lo hi what row : Nat) (h1 : lo ≤ 999) (h2 : hi ≤ 999) (hw : dWk D + m ≤ 400) : ∃ v, v < 2 ^ 62 ∧ valJ D E s m lo hi cst what row = lN v := by
  unfold valJ
  by_cases q : what = 0
  · rw [if_pos q]
    have pw := rw_pw s m lo hi row hW h1 h2 m hw
    obtain ⟨g1, g2, g3, g4⟩ := rw_dm D E s m lo hi row m
    obtain ⟨c, hc, e⟩ := sumJ_nat (f := rwC D E s m lo hi row cst m) (B := 4000000000 * 400) 8 (fun x hx => by
      obtain ⟨c, hc, e⟩ := pw.2.1.2.2.2.2 x hx
      exact ⟨c, by rw [g2] at hc; omega, e⟩)
    exact ⟨c, by omega, e⟩
  · rw [if_neg q]
    have := mxN_le (f := ogN D E s m lo hi row) (B := 9999) m (fun i _ => og_le hW s m lo hi row i)
    exact ⟨_, by omega, rfl⟩
theorem c_cost14 (n b : Nat) (f : Nat → Int64) (st : St) (hf : ∀ x, x < 8 → st.2 (b + 10) x = f x) : ∀ (j k : Nat), k ≤ 8 → 8 - k < j → fX1_costOfAll_L14 n b j (sumJ f k) 8 (nI k) st = some (sumJ f 8, st) := by
  intro j
  induction j with
  | zero => intro k _ hj; omega
  | succ j ih =>
    intro k hk hj
    simp only [fX1_costOfAll_L14, fX1_costOfAll_s14]
    by_cases q : k = 8
    · subst q
      rw [if_pos (show (8 : Int32) ≤ nI 8 by decide)]; rfl
    · rw [if_neg (show ¬ (8 : Int32) ≤ nI k from nI_ge (b := 8) (by omega) (by decide))]
      simp only [fX1_costOfAll_s21, inb_nI (show k < 8 by omega) (by decide), nI_clamp (show k < 2 ^ 31 by omega), if_true, hf k (by omega), nI_1]
      exact ih (k + 1) (by omega) (by omega)
theorem c_great (n s m lo hi row : Nat) (hn : 200 ≤ n) (hW : PW D E R fs md sd cst) (hw : dWk D + m ≤ 400) (hm : m ≤ 6) (st : St) (hA : Ahd st D E s m lo hi row md sd cst m) : fX10_greatestOrder n (nI m) st = some (nI (mxN (ogN D E s m lo hi row) m), st) := by
  have loop : ∀ (j k : Nat), k ≤ m → m - k < j → fX10_greatestOrder_L4 n j (nI m) (nI (mxN (ogN D E s m lo hi row) k)) (nI (k + 1)) st = some (nI (mxN (ogN D E s m lo hi row) m), st) := by
    intro j
    induction j with
    | zero => intro k _ hj; omega
    | succ j ih =>
      intro k hk hj
      simp only [fX10_greatestOrder_L4, fX10_greatestOrder_s4]
      by_cases q : k = m
      · subst q
        rw [if_pos (nI_lt (by omega) (by omega))]; rfl
      · rw [if_neg (nI_nlt (by omega) (by omega))]
        have F := hA (k + 1) (by omega)
        obtain ⟨g1, g2, g3, g4⟩ := rw_dm D E s m lo hi row (k + 1)
        obtain ⟨w1, w2, w3, w4⟩ := rw_dm D E s m lo hi row k
        have ew := F.1.1
        rw [g2] at ew
        have hl := c_latest n (53 + 11 * (k + 1)) (53 + 11 * (k + 1) + 9) 0 st (w := dWk D + (k + 1)) (by omega) ew (by omega)
        have f9 := (F.2.2.2.2.2.2.1 0 (dWk D + k) (by omega) (by rw [g2]; omega) (by rw [g2]; omega)).2
        have eo : dOr (rwD D E s m lo hi row (k + 1)) (dWk D + k) 0 = ogN D E s m lo hi row k := by
          show orC (rwD D E s m lo hi row k) (oW (rwD D E s m lo hi row k) E) (dWk D + k) 0 = _
          unfold orC
          rw [if_pos w2.symm, if_pos (by rw [w3]; have := hW.1.1.2.1; omega)]; rfl
        rw [eo] at f9
        rw [if_neg (by omega), show dWk D + (k + 1) - 1 = dWk D + k by omega, f9] at hl
        rw [show nI 0 = 0 from rfl] at hl
        have b1 := og_le hW s m lo hi row k
        have b2 := mxN_le (f := ogN D E s m lo hi row) (B := 9999) k (fun i _ => og_le hW s m lo hi row i)
        simp only [fX10_greatestOrder_s9, inb_nI (show k + 1 < 7 by omega) (by decide), nI_clamp (show k + 1 < 2 ^ 31 by omega), if_true, hl, Option.bind_some, fX10_greatestOrder_s29, nI_1]
        have em : (if nI (mxN (ogN D E s m lo hi row) k) < nI (ogN D E s m lo hi row k) then nI (ogN D E s m lo hi row k) else nI (mxN (ogN D E s m lo hi row) k)) = nI (mxN (ogN D E s m lo hi row) (k + 1)) := by
          rw [mxN]
          by_cases z : mxN (ogN D E s m lo hi row) k < ogN D E s m lo hi row k
          · rw [if_pos z, if_pos (nI_lt z (by omega))]
          · rw [if_neg z, if_neg (nI_nlt (by omega) (by omega))]
        rw [em]
        exact ih (k + 1) (by omega) (by omega)
  simp only [fX10_greatestOrder, fX10_greatestOrder_s0]
  exact loop n 0 (by omega) (by omega)
theorem c_w93 (n s m lo hi what : Nat) (hn : 200 ≤ n) (hW : PW D E R fs md sd cst) (h1 : lo ≤ 999) (h2 : hi ≤ 999) (hw : dWk D + m ≤ 400) (hm : m ≤ 6) (hs : s < dN D) (hwh : what ≤ 1) : ∀ (j row : Nat) (st : St), row ≤ 2 ^ m → 2 ^ m - row < j → CP st D → CQ st E R → (∀ x, x < 8 → st.1 51 x = 0) → CFl st 53 D md sd cst → (row = 0 ∨ Ahd st D E s m lo hi (row - 1) md sd cst m) → ∃ st1, fX10_worst_L93 n j (nI s) (nI what) (nI m) (nI lo) (nI hi) (bR (valJ D E s m lo hi cst what) row).1 (nI (bR (valJ D E s m lo hi cst what) row).2) (nI row) st = fX10_worst_s159 n (nI m) (nI lo) (nI hi) (bR (valJ D E s m lo hi cst what) (2 ^ m)).1 (nI (bR (valJ D E s m lo hi cst what) (2 ^ m)).2) st1 ∧ Same LIw LJw st st1 ∧ ∀ x, x < 8 → st1.1 51 x = 0 := by
  have h64 : (2 : Nat) ^ m ≤ 64 := by
    have : (2 : Nat) ^ m ≤ 2 ^ 6 := Nat.pow_le_pow_right (by decide) hm
    omega
  intro j
  induction j with
  | zero => intro row st _ hj; omega
  | succ j ih =>
    intro row st hr hj hC hQ h51 hF hA
    simp only [fX10_worst_L93, fX10_worst_s93, sh_ok m (by omega)]
    by_cases q : row = 2 ^ m
    · subst q
      rw [if_pos (Int32.le_refl _)]
      exact ⟨st, rfl, Same.rf, h51⟩
    · rw [if_neg (nI_ge (show row < 2 ^ m by omega) (by omega))]
      obtain ⟨s1, a0, a1, a2, a3⟩ := c_look n s m lo hi row hn hW h1 h2 hw hm hs (by omega) st hC hQ h51 hF hA
      obtain ⟨kI, kJ⟩ := sameW' a1
      have hv : fX10_worst_s113 n (fX10_worst_L93 n j) (nI s) (nI what) (nI m) (nI lo) (nI hi) (bR (valJ D E s m lo hi cst what) row).1 (nI (bR (valJ D E s m lo hi cst what) row).2) (nI row) s1 = fX10_worst_s135 n (fX10_worst_L93 n j) (nI s) (nI what) (nI m) (nI lo) (nI hi) (bR (valJ D E s m lo hi cst what) row).1 (nI (bR (valJ D E s m lo hi cst what) row).2) (nI row) (valJ D E s m lo hi cst what row) s1 := by
        simp only [fX10_worst_s113]
        by_cases z : what = 0
        · subst z
          rw [if_pos (show nI 0 = 0 from rfl)]
          have hc := c_cost14 n (53 + 11 * m) (rwC D E s m lo hi row cst m) s1 (a3 m (Nat.le_refl _)).2.2.2.2.2.2.2.2 n 0 (by omega) (by omega)
          rw [show sumJ (rwC D E s m lo hi row cst m) 0 = 0 from rfl, show nI 0 = 0 from rfl] at hc
          simp only [fX10_worst_s117, inb_nI (show m < 7 by omega) (by decide), nI_clamp (show m < 2 ^ 31 by omega), if_true, fX1_costOfAll, fX1_costOfAll_s0, hc, Option.bind_some, fX10_worst_s126]
          rfl
        · have z1 : what = 1 := by omega
          subst z1
          rw [if_neg (show ¬ nI 1 = 0 by decide)]
          have b2 := mxN_le (f := ogN D E s m lo hi row) (B := 9999) m (fun i _ => og_le hW s m lo hi row i)
          simp only [fX10_worst_s129, c_great n s m lo hi row hn hW hw hm s1 a3, Option.bind_some, fX10_worst_s134, nI_l (show mxN (ogN D E s m lo hi row) m < 2 ^ 31 by omega)]
          rfl
      simp only [fX10_worst_s101, a0, Option.bind_some]
      rw [hv]
      have go := ih (row + 1) s1 (by omega) (by omega) (hC.k (fun o ho => kI o (by omega) (by omega) (by omega) (by omega) (by omega))) (hQ.k (fun o ho => kI o (by omega) (by omega) (by omega) (by omega) (by omega))) a2 (hF.k (fun o g1 g2 => kI o (by omega) (by omega) (by omega) (by omega) (by omega)) (fun o g1 g2 => kJ o (by omega) (by omega))) (Or.inr (by rw [Nat.add_sub_cancel]; exact a3))
      rw [bR] at go
      simp only [fX10_worst_s135]
      by_cases z : valJ D E s m lo hi cst what row ≤ (bR (valJ D E s m lo hi cst what) row).1
      · rw [if_pos z] at go ⊢
        simp only [fX10_worst_s153, nI_1]
        obtain ⟨s2, c0, c1, c2⟩ := go
        exact ⟨s2, c0, a1.trans c1, c2⟩
      · rw [if_neg z] at go ⊢
        simp only [fX10_worst_s145, fX10_worst_s153, nI_1]
        obtain ⟨s2, c0, c1, c2⟩ := go
        exact ⟨s2, c0, a1.trans c1, c2⟩
theorem c_w162 (n m lo hi row : Nat) (v6 : Int64) (hm : m ≤ 6) : ∀ (j k : Nat) (st : St), k ≤ m → m - k < j → (∀ i, i < k → st.1 52 i = nI (dvR m lo hi row i)) → ∃ st1, fX10_worst_L162 n j (nI m) (nI lo) (nI hi) v6 (nI row) (nI k) st = some (v6, st1) ∧ Same [(52, none), (0, some 15)] [] st st1 ∧ (∀ i, i < m → st1.1 52 i = nI (dvR m lo hi row i)) ∧ st1.1 0 15 = nI m := by
  intro j
  induction j with
  | zero => intro k st _ hj; omega
  | succ j ih =>
    intro k st hk hj h0
    simp only [fX10_worst_L162, fX10_worst_s162]
    by_cases q : k = m
    · subst q
      rw [if_pos (Int32.le_refl _)]
      simp only [fX10_worst_s199, fX10_worst_s204]
      exact ⟨_, rfl, same_I (Or.inr (mm2 1 rfl)), fun i hi => by rw [sI_o (by decide)]; exact h0 i hi, sI_at⟩
    · rw [if_neg (nI_ge (show k < m by omega) (by omega))]
      have e : fX10_worst_s168 n (fX10_worst_L162 n j) (nI m) (nI lo) (nI hi) v6 (nI row) (nI k) st = fX10_worst_L162 n j (nI m) (nI lo) (nI hi) v6 (nI row) (nI (k + 1)) (setI st 52 k (nI (dvR m lo hi row k))) := by
        simp only [fX10_worst_s168, c_high, Option.bind_some, fX10_worst_s182]
        by_cases z : hb m row k
        · rw [if_pos z, if_neg (show ¬ (1 : Int32) = 0 by decide)]
          simp only [fX10_worst_s185, fX10_worst_s192, inb_nI (show k < 6 by omega) (by decide), nI_clamp (show k < 2 ^ 31 by omega), if_true, fX10_worst_s193, nI_1, dvR, if_pos z]
        · rw [if_neg z, if_pos rfl]
          simp only [fX10_worst_s190, fX10_worst_s192, inb_nI (show k < 6 by omega) (by decide), nI_clamp (show k < 2 ^ 31 by omega), if_true, fX10_worst_s193, nI_1, dvR, if_neg z]
      rw [e]
      obtain ⟨s1, a0, a1, a2, a3⟩ := ih (k + 1) (setI st 52 k (nI (dvR m lo hi row k))) (by omega) (by omega) (fun i hi => by
        by_cases z : i = k
        · subst z; rw [sI_at]
        · rw [sI_k z]; exact h0 i (by omega))
      exact ⟨s1, a0, (same_I (Or.inl (mm2 0 rfl))).trans a1, a2, a3⟩
theorem m_tries96 (n N : Nat) (f : Nat → Int64) (st : St) (hN : N ≤ 8) (e0 : st.1 130 0 = nI N) (hf : ∀ x, x < 8 → st.2 145 x = f x) : ∀ (j k : Nat), k ≤ N → N - k < j → fX11_tries_L96 n j (sumJ f k) (nI k) st = some (sumJ f N, st) := by
  intro j
  induction j with
  | zero => intro k _ hj; omega
  | succ j ih =>
    intro k hk hj
    simp only [fX11_tries_L96, fX11_tries_s96, e0]
    by_cases q : k = N
    · subst q
      rw [if_pos (Int32.le_refl _)]; rfl
    · rw [if_neg (nI_ge (show k < N by omega) (by omega))]
      simp only [fX11_tries_s105, inb_nI (show k < 8 by omega) (by decide), nI_clamp (show k < 2 ^ 31 by omega), if_true, hf k (by omega), nI_1]
      exact ih (k + 1) (by omega) (by omega)
theorem m_tries6 (n s m lo hi what row : Nat) (hn : 2 ^ 27 ≤ n) (hW : PW D E R fs md sd cst) (h1 : lo ≤ 999) (h2 : hi ≤ 999) (hw : dWk D + m ≤ 400) (hm : m ≤ 6) (hs : s < dN D) (hk3 : dKd D s = 3) (hwh : what ≤ 1) : ∀ (j k : Nat) (st : St), k ≤ m → m - k < j → MW st (rwD D E s m lo hi row k) E R (rwM D E s m lo hi row md k) (rwS D E s m lo hi row sd k) (rwC D E s m lo hi row cst k) → ∃ st1, fX11_tries_L6 n j (nI s) (nI what) (nI m) (nI row) (nI lo) (nI hi) (lN (mxN (ogN D E s m lo hi row) k)) (nI k) st = some (valJ D E s m lo hi cst what row, st1) := by
  have hN := hW.1.1.1
  intro j
  induction j with
  | zero => intro k st _ hj; omega
  | succ j ih =>
    intro k st hk hj hM
    obtain ⟨g1, g2, g3, g4⟩ := rw_dm D E s m lo hi row k
    have e0 : st.1 130 0 = nI (dN D) := by rw [← g3]; exact hM.1.1
    simp only [fX11_tries_L6, fX11_tries_s6]
    by_cases q : k = m
    · subst q
      rw [if_pos (Int32.le_refl _)]
      simp only [fX11_tries_s82]
      refine ⟨st, ?_⟩
      by_cases z : what = 0
      · subst z
        rw [if_neg (show ¬ nI 0 = 1 by decide)]
        have := m_tries96 n (dN D) (rwC D E s k lo hi row cst k) st hN e0 hM.2.2.2.2.2.2.2.2.1 n 0 (by omega) (by omega)
        rw [show sumJ (rwC D E s k lo hi row cst k) 0 = 0 from rfl, show nI 0 = 0 from rfl] at this
        simp only [fX11_tries_s90, this]
        unfold valJ
        rw [if_pos rfl, sumJ_cut (f := rwC D E s k lo hi row cst k) (N := dN D) 8 hN (fun x hx1 hx2 => ((rw_pw s k lo hi row hW h1 h2 k hw).2.1.1 x (by rw [g3]; exact hx1) hx2).2.2.2.2.2.1)]
      · have z1 : what = 1 := by omega
        subst z1
        rw [if_pos (show nI 1 = 1 by decide)]
        simp only [fX11_tries_s87]
        rfl
    · rw [if_neg (nI_ge (show k < m by omega) (by omega))]
      have ek : st.1 131 = dKd D := by rw [← g4]; exact hM.1.2.1
      obtain ⟨s1, a0, a1, a2, a3⟩ := m_dem2 n (dN D) 0 (dKd D) hN n 0 st (by omega) (by omega) e0 ek (fun s hs => absurd hs (by omega))
      rw [show nI 0 = 0 from rfl] at a0
      have z140 : ∀ x, x < dN D → s1.1 140 x = 0 := fun x hx => by rw [a2 x hx]; split <;> rfl
      simp only [fX11_tries_s12, fX11_demands, fX11_demands_s0, a0, Option.bind_some]
      have e17 : fX11_tries_s17 n (fX11_tries_L6 n j) (nI s) (nI what) (nI m) (nI row) (nI lo) (nI hi) (lN (mxN (ogN D E s m lo hi row) k)) (nI k) s1 = fX11_tries_s45 n (fX11_tries_L6 n j) (nI s) (nI what) (nI m) (nI row) (nI lo) (nI hi) (lN (mxN (ogN D E s m lo hi row) k)) (nI k) (setI s1 140 s (nI (dvR m lo hi row k))) := by
        simp only [fX11_tries_s17]
        by_cases z : hb m row k
        · rw [if_pos z]
          simp only [fX11_tries_s37, fX11_tries_s44, inb_nI (show s < 8 by omega) (by decide), nI_clamp (show s < 2 ^ 31 by omega), if_true, dvR, if_pos z]
        · rw [if_neg z]
          simp only [fX11_tries_s42, fX11_tries_s44, inb_nI (show s < 8 by omega) (by decide), nI_clamp (show s < 2 ^ 31 by omega), if_true, dvR, if_neg z]
      rw [e17]
      have M1' := mw_told (mw_told hM a1) (st1 := setI s1 140 s (nI (dvR m lo hi row k))) (same_I (Or.inl (mm2 0 rfl)))
      obtain ⟨s2, b0, b1, b2, b3⟩ := m_step n R fs _ _ hn (rwD D E s m lo hi row k) E _ (dmR s m lo hi row (k + 1)) (rw_pw s m lo hi row hW h1 h2 k (by omega)) (by omega) (fun x hx => by rw [g1]; exact dmR_le h1 h2) _ M1' (fun x hx _ => by
        rw [g1]
        unfold dmR
        by_cases z : x = s
        · subst z; rw [sI_at, if_pos rfl]
        · rw [sI_k z, if_neg z]; exact z140 x (by omega))
      have f8 := (b1.2.2.2.2.2.2.2.1 0 (by omega)).2
      have eo : (if dWk (nxD (rwD D E s m lo hi row k) E (dmR s m lo hi row (k + 1))) = 0 then 0 else dOr (nxD (rwD D E s m lo hi row k) E (dmR s m lo hi row (k + 1))) (dWk (nxD (rwD D E s m lo hi row k) E (dmR s m lo hi row (k + 1))) - 1) 0) = ogN D E s m lo hi row k := by
        show (if dWk (rwD D E s m lo hi row k) + 1 = 0 then 0 else orC (rwD D E s m lo hi row k) (oW (rwD D E s m lo hi row k) E) (dWk (rwD D E s m lo hi row k) + 1 - 1) 0) = _
        rw [if_neg (by omega), Nat.add_sub_cancel]
        unfold orC
        rw [if_pos rfl, if_pos (by rw [g3]; omega)]; rfl
      rw [eo] at f8
      have bl := og_le hW s m lo hi row k
      have bm := mxN_le (f := ogN D E s m lo hi row) (B := 9999) k (fun i _ => og_le hW s m lo hi row i)
      have c0 : (0 : Int32).toNatClampNeg = 0 := rfl
      have i0 : inb 0 8 = true := rfl
      simp only [fX11_tries_s45, b0, Option.bind_some, fX11_tries_s49, i0, c0, if_true, f8]
      have go := ih (k + 1) s2 (by omega) (by omega) b1
      rw [mxN] at go
      by_cases z : mxN (ogN D E s m lo hi row) k < ogN D E s m lo hi row k
      · rw [if_pos z] at go
        rw [if_neg (fun w => by have := (pk_lLE (by omega) (by omega)).mp w; omega)]
        simp only [fX11_tries_s63, i0, c0, if_true, f8, fX11_tries_s74, nI_1]
        exact go
      · rw [if_neg z] at go
        rw [if_pos ((pk_lLE (by omega) (by omega)).mpr (by omega))]
        simp only [fX11_tries_s72, fX11_tries_s74, nI_1]
        exact go
theorem m_w136 (n m lo hi row : Nat) (K94 : Int32 → Int32 → Int32 → Int32 → Int32 → Int64 → Int32 → St → Option (Int64 × St)) (v1 v2 : Int32) (v6 : Int64) (hm : m ≤ 6) : ∀ (j k : Nat) (st : St), k ≤ m → m - k < j → (∀ i, i < k → st.1 176 i = nI (dvR m lo hi row i)) → ∃ st1, fX11_worst_L136 n K94 j v1 v2 (nI m) (nI lo) (nI hi) v6 (nI row) (nI k) st = fX11_worst_s177 n K94 v1 v2 (nI m) (nI lo) (nI hi) v6 (nI row) st1 ∧ Same [(176, none)] [] st st1 ∧ ∀ i, i < m → st1.1 176 i = nI (dvR m lo hi row i) := by
  intro j
  induction j with
  | zero => intro k st _ hj; omega
  | succ j ih =>
    intro k st hk hj h0
    simp only [fX11_worst_L136, fX11_worst_s136]
    by_cases q : k = m
    · subst q
      rw [if_pos (Int32.le_refl _)]
      exact ⟨st, rfl, Same.rf, h0⟩
    · rw [if_neg (nI_ge (show k < m by omega) (by omega))]
      have e : fX11_worst_s142 n K94 (fX11_worst_L136 n K94 j) v1 v2 (nI m) (nI lo) (nI hi) v6 (nI row) (nI k) st = fX11_worst_L136 n K94 j v1 v2 (nI m) (nI lo) (nI hi) v6 (nI row) (nI (k + 1)) (setI st 176 k (nI (dvR m lo hi row k))) := by
        simp only [fX11_worst_s142]
        by_cases z : hb m row k
        · rw [if_pos z]
          simp only [fX11_worst_s163, fX11_worst_s170, inb_nI (show k < 6 by omega) (by decide), nI_clamp (show k < 2 ^ 31 by omega), if_true, fX11_worst_s171, nI_1, dvR, if_pos z]
        · rw [if_neg z]
          simp only [fX11_worst_s168, fX11_worst_s170, inb_nI (show k < 6 by omega) (by decide), nI_clamp (show k < 2 ^ 31 by omega), if_true, fX11_worst_s171, nI_1, dvR, if_neg z]
      rw [e]
      obtain ⟨s1, a0, a1, a2⟩ := ih (k + 1) (setI st 176 k (nI (dvR m lo hi row k))) (by omega) (by omega) (fun i hi => by
        by_cases z : i = k
        · subst z; rw [sI_at]
        · rw [sI_k z]; exact h0 i (by omega))
      exact ⟨s1, a0, (same_I (Or.inl (mm2 0 rfl))).trans a1, a2⟩
end
