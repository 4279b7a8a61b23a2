/-! ===== the reference's week: goods are sent ===== -/
theorem m_cl2 (n s : Nat) (hs : s < 8) (m : Nat → Nat) : ∀ (j k : Nat) (st : St), k ≤ 8 → 8 - k < j → (∀ c, c < 8 → st.2 142 (8 * s + c) = lN (m c)) → (∀ c, c < k → st.2 151 c = lN (m c)) → ∃ st1, fX11_sends_L2 n j (nI s) (nI k) st = fX11_sends_s31 n (nI s) st1 ∧ kJ1 151 st st1 ∧ ∀ c, c < 8 → st1.2 151 c = lN (m c) := by
  intro j
  induction j with
  | zero => intro k st _ hj; omega
  | succ j ih =>
    intro k st hk hj hm h1
    simp only [fX11_sends_L2, fX11_sends_s2]
    by_cases q : k = 8
    · subst q
      rw [if_pos (show (8 : Int32) ≤ nI 8 by decide)]
      exact ⟨st, rfl, kJ1.rf _ _, h1⟩
    · rw [if_neg (show ¬ (8 : Int32) ≤ nI k from nI_ge (b := 8) (by omega) (by decide))]
      simp only [fX11_sends_s8, i8mul, inb_nI (show 8 * s + k < 64 by omega) (by decide), nI_clamp (show 8 * s + k < 2 ^ 31 by omega), inb_nI (show k < 8 by omega) (by decide), nI_clamp (show k < 2 ^ 31 by omega), if_true, hm k (by omega), fX11_sends_s25, nI_1]
      obtain ⟨st1, g0, g1, g2⟩ := ih (k + 1) (setJ st 151 k (lN (m k))) (by omega) (by omega) (fun c hc => by rw [sJ_o (by decide)]; exact hm c hc) (fun c hc => by
        by_cases z : c = k
        · subst z; rw [sJ_at]
        · rw [sJ_k z]; exact h1 c (by omega))
      exact ⟨st1, g0, (kJ1.pt 151 st _ _).tr g1, g2⟩
def SlM (st : St) (D : WD) (dv : Nat → Nat) : Prop := ∀ c i, c < 8 → i < 6 → st.2 143 (7 * c + i + 1) = lN (sltA D c i + (if i + 1 = (dWy D c).toNatClampNeg then dv c else 0))
theorem m_s52 (n s : Nat) (D : WD) (hD : PFl D) (hs : s < dN D) : ∀ (j c : Nat) (st : St), c ≤ 8 → 8 - c < j → MP st D → (∀ x, x < 8 → st.2 152 x = lN (shA D s x)) → (∀ x, x < 8 → st.2 142 (8 * s + x) = lN (mmA D s x - (if x < c then shA D s x else 0))) → st.2 141 s = lN (stkA D s - sumN (shA D s) c) → st.2 146 s = lN (dSn D s + sumN (shA D s) c) → SlM st D (dvS D s c) → ∃ st1, fX11_sends_L52 n j (nI s) (lN (if s < c then shA D s s else 0)) (nI c) st = some (lN (shA D s s), st1) ∧ st1.1 = st.1 ∧ (∀ o, o ≠ 141 → o ≠ 142 → o ≠ 143 → o ≠ 146 → st1.2 o = st.2 o) ∧ (∀ x, x < 8 → st1.2 142 (8 * s + x) = lN (mmA D s x - shA D s x)) ∧ (∀ x, x < 8 * s ∨ 8 * s + 8 ≤ x → st1.2 142 x = st.2 142 x) ∧ st1.2 141 s = lN (stkB D s) ∧ (∀ x, x ≠ s → st1.2 141 x = st.2 141 x) ∧ st1.2 146 s = lN (snB D s) ∧ (∀ x, x ≠ s → st1.2 146 x = st.2 146 x) ∧ SlM st1 D (dvS D s 8) := by
  have hN := hD.1.1
  have hs8 : s < 8 := by omega
  have i1 : inb (nI s) 8 = true := inb_nI hs8 (by decide)
  have c1 : (nI s).toNatClampNeg = s := nI_clamp (by omega)
  intro j
  induction j with
  | zero => intro c st _ hj; omega
  | succ j ih =>
    intro c st hc hj hP h152 h142 h141 h146 hS
    simp only [fX11_sends_L52, fX11_sends_s52]
    by_cases q : c = 8
    · subst q
      rw [if_pos (show (8 : Int32) ≤ nI 8 by decide), if_pos hs8]
      exact ⟨st, rfl, rfl, fun _ _ _ _ _ => rfl, fun x hx => by rw [h142 x hx, if_pos hx], fun _ _ => rfl, h141, fun _ _ => rfl, h146, fun _ _ => rfl, hS⟩
    · rw [if_neg (show ¬ (8 : Int32) ≤ nI c from nI_ge (b := 8) (by omega) (by decide))]
      have hc8 : c < 8 := by omega
      have i2 : inb (nI c) 8 = true := inb_nI hc8 (by decide)
      have c2 : (nI c).toNatClampNeg = c := nI_clamp (by omega)
      have i3 : inb (nI (8 * s + c)) 64 = true := inb_nI (by omega) (by decide)
      have c3 : (nI (8 * s + c)).toNatClampNeg = 8 * s + c := nI_clamp (by omega)
      have a2 := h142 c hc8
      rw [if_neg (by omega), Nat.sub_zero] at a2
      have a5 := h152 c hc8
      have l1 := w_sh D s c
      have l2 := sumN_mono (f := shA D s) (show c + 1 ≤ 8 by omega)
      have l3 := w_out D s
      unfold outA at l3
      rw [sumN] at l2
      have w1 : (setJ st 142 (8 * s + c) (lN (mmA D s c - shA D s c))).2 152 c = lN (shA D s c) := by rw [sJ_o (by decide)]; exact a5
      have w2 : (setJ st 142 (8 * s + c) (lN (mmA D s c - shA D s c))).2 141 s = lN (stkA D s - sumN (shA D s) c) := by rw [sJ_o (by decide)]; exact h141
      simp only [fX11_sends_s59, i8mul, i3, c3, i2, c2, if_true, a2, a5, lN_sub l1, fX11_sends_s81, i1, c1, w1, w2]
      rw [lN_sub (show shA D s c ≤ stkA D s - sumN (shA D s) c by omega), show stkA D s - sumN (shA D s) c - shA D s c = stkA D s - sumN (shA D s) (c + 1) by rw [sumN]; omega]
      have w3 : ∀ v, (setJ (setJ st 142 (8 * s + c) (lN (mmA D s c - shA D s c))) 141 s v).2 152 c = lN (shA D s c) := fun v => by rw [sJ_o (by decide)]; exact w1
      have w4 : ∀ v, (setJ (setJ st 142 (8 * s + c) (lN (mmA D s c - shA D s c))) 141 s v).2 146 s = lN (dSn D s + sumN (shA D s) c) := fun v => by rw [sJ_o (by decide), sJ_o (by decide)]; exact h146
      simp only [fX11_sends_s97, i1, c1, i2, c2, if_true, w3, w4, lN_add, fX11_sends_s113]
      rw [show dSn D s + sumN (shA D s) c + shA D s c = dSn D s + sumN (shA D s) (c + 1) by rw [sumN]; omega]
      obtain ⟨X, eX⟩ : ∃ X, X = setJ (setJ (setJ st 142 (8 * s + c) (lN (mmA D s c - shA D s c))) 141 s (lN (stkA D s - sumN (shA D s) (c + 1)))) 146 s (lN (dSn D s + sumN (shA D s) (c + 1))) := ⟨_, rfl⟩
      rw [← eX]
      have x1 : X.1 = st.1 := by rw [eX]; rfl
      have xo : ∀ o, o ≠ 141 → o ≠ 142 → o ≠ 146 → X.2 o = st.2 o := fun o o1 o2 o3 => by rw [eX, sJ_o o3, sJ_o o1, sJ_o o2]
      have x142 : ∀ x, X.2 142 x = if x = 8 * s + c then lN (mmA D s c - shA D s c) else st.2 142 x := fun x => by
        rw [eX, sJ_o (by decide), sJ_o (by decide)]
        by_cases z : x = 8 * s + c
        · subst z; rw [sJ_at, if_pos rfl]
        · rw [sJ_k z, if_neg z]
      have x141 : ∀ x, X.2 141 x = if x = s then lN (stkA D s - sumN (shA D s) (c + 1)) else st.2 141 x := fun x => by
        rw [eX, sJ_o (by decide)]
        by_cases z : x = s
        · subst z; rw [sJ_at, if_pos rfl]
        · rw [sJ_k z, sJ_o (by decide), if_neg z]
      have x146 : ∀ x, X.2 146 x = if x = s then lN (dSn D s + sumN (shA D s) (c + 1)) else st.2 146 x := fun x => by
        rw [eX]
        by_cases z : x = s
        · subst z; rw [sJ_at, if_pos rfl]
        · rw [sJ_k z, sJ_o (by decide), sJ_o (by decide), if_neg z]
      have hPX : MP X D := hP.k (fun o _ _ => by rw [x1])
      -- on with the next customer, from a state that differs in the slots alone
      have key : ∀ Y : St, kJ1 143 X Y → SlM Y D (dvS D s (c + 1)) → ∃ st1, fX11_sends_s172 n (fX11_sends_L52 n j) (nI s) (lN (if s < c + 1 then shA D s s else 0)) (nI c) Y = some (lN (shA D s s), st1) ∧ st1.1 = st.1 ∧ (∀ o, o ≠ 141 → o ≠ 142 → o ≠ 143 → o ≠ 146 → st1.2 o = st.2 o) ∧ (∀ x, x < 8 → st1.2 142 (8 * s + x) = lN (mmA D s x - shA D s x)) ∧ (∀ x, x < 8 * s ∨ 8 * s + 8 ≤ x → st1.2 142 x = st.2 142 x) ∧ st1.2 141 s = lN (stkB D s) ∧ (∀ x, x ≠ s → st1.2 141 x = st.2 141 x) ∧ st1.2 146 s = lN (snB D s) ∧ (∀ x, x ≠ s → st1.2 146 x = st.2 146 x) ∧ SlM st1 D (dvS D s 8) := by
        intro Y hY hSY
        simp only [fX11_sends_s172, nI_1]
        obtain ⟨st1, g0, g1, g2, g3, g4, g5, g6, g7, g8, g9⟩ := ih (c + 1) Y (by omega) (by omega) (hPX.k (fun o _ _ => by rw [hY.1])) (fun x hx => by rw [hY.2 152 (by decide), xo 152 (by decide) (by decide) (by decide)]; exact h152 x hx) (fun x hx => by
          rw [hY.2 142 (by decide), x142]
          by_cases z : x = c
          · subst z; rw [if_pos rfl, if_pos (by omega)]
          · rw [if_neg (by omega), h142 x hx]
            by_cases y : x < c
            · rw [if_pos y, if_pos (by omega)]
            · rw [if_neg y, if_neg (by omega)]) (by rw [hY.2 141 (by decide), x141, if_pos rfl]) (by rw [hY.2 146 (by decide), x146, if_pos rfl]) hSY
        refine ⟨st1, g0, by rw [g1, hY.1, x1], fun o o1 o2 o3 o4 => by rw [g2 o o1 o2 o3 o4, hY.2 o o3, xo o o1 o2 o4], g3, fun x hx => by rw [g4 x hx, hY.2 142 (by decide), x142, if_neg (by omega)], g5, fun x hx => by rw [g6 x hx, hY.2 141 (by decide), x141, if_neg hx], g7, fun x hx => by rw [g8 x hx, hY.2 146 (by decide), x146, if_neg hx], g9⟩
      have hSX : SlM X D (dvS D s c) := fun x i hx hi => by rw [xo 143 (by decide) (by decide) (by decide)]; exact hS x i hx hi
      have a5X : X.2 152 c = lN (shA D s c) := by rw [xo 152 (by decide) (by decide) (by decide)]; exact a5
      by_cases z : c = s
      · subst z
        rw [if_pos rfl]
        simp only [fX11_sends_s119, i1, c1, if_true, a5X]
        rw [if_neg (show ¬ c < c by omega), show lN 0 + lN (shA D c c) = lN (shA D c c) from by rw [lN_add, Nat.zero_add]]
        have := key X (kJ1.rf _ _) (fun x i hx hi => by
          rw [dv_no (fun w => by have := (w_cu hD hs8 w).1; omega)]
          exact hSX x i hx hi)
        rw [if_pos (show c < c + 1 by omega)] at this
        exact this
      · rw [if_neg (fun w => z ((nI_eq (by omega) (by omega)).mp w))]
        have esc : (if s < c then shA D s s else 0) = if s < c + 1 then shA D s s else 0 := by
          by_cases y : s < c
          · rw [if_pos y, if_pos (by omega)]
          · rw [if_neg y, if_neg (by omega)]
        rw [esc]
        simp only [fX11_sends_s132, i2, c2, if_true, a5X]
        by_cases y : cu D s c
        · obtain ⟨d1, d2, d3⟩ := dv_step hD hs8 y
          have eg := w_gt hD hs8 y
          by_cases y0 : shA D s c = 0
          · rw [if_pos (by rw [y0]; decide)]
            exact key X (kJ1.rf _ _) (fun x i hx hi => by
              rw [hSX x i hx hi]
              by_cases t : x = c
              · subst t; rw [d2, d3, eg, y0]
              · rw [d1 x t])
          · have hmm := w_mm hD hs8 c
            rw [if_neg (fun w => y0 ((l_le0 (by omega)).mp w))]
            obtain ⟨wy, hy1, hy6, ey, cy⟩ := w_wy hD y.1
            have e133 : X.1 133 c = nI wy := by rw [hPX.2.2.2.1]; exact ey
            have a143 := hSX c (wy - 1) hc8 (by omega)
            rw [d2, show 7 * c + (wy - 1) + 1 = 7 * c + wy by omega] at a143
            have a143' : X.2 143 (7 * c + wy) = lN (sltA D c (wy - 1)) := by rw [a143]; split <;> rfl
            simp only [fX11_sends_s144, i2, c2, if_true, e133, i7mul, inb_nI (show 7 * c + wy < 56 by omega) (by decide), nI_clamp (show 7 * c + wy < 2 ^ 31 by omega), a143', a5X, lN_add]
            refine key _ (kJ1.pt 143 X _ _) (fun x i hx hi => ?_)
            by_cases t : x = c
            · subst t
              rw [d3, cy]
              by_cases t2 : i = wy - 1
              · subst t2
                rw [show 7 * x + (wy - 1) + 1 = 7 * x + wy by omega, sJ_at, if_pos (by omega), eg]
              · rw [sJ_k (by omega), hSX x i hx hi, d2, cy, if_neg (by omega), if_neg (by omega)]
            · rw [sJ_k (by omega), d1 x t]; exact hSX x i hx hi
        · have y0 : shA D s c = 0 := w_sh0 D (by unfold mmA; rw [if_neg z, if_neg y])
          rw [if_pos (by rw [y0]; decide)]
          exact key X (kJ1.rf _ _) (fun x i hx hi => by rw [dv_no y]; exact hSX x i hx hi)
theorem dv_8 {D : WD} (hD : PFl D) {s : Nat} (hs : s < 8) (x : Nat) : dvS D s 8 x = dvS D s (dN D) x := by
  have hN := hD.1.1
  unfold dvS
  have : ((dSp D x).toNatClampNeg < s ∨ (cu D s x ∧ x < 8)) ↔ ((dSp D x).toNatClampNeg < s ∨ (cu D s x ∧ x < dN D)) := by
    constructor
    · rintro (h | ⟨h, -⟩)
      · exact Or.inl h
      · exact Or.inr ⟨h, h.1⟩
    · rintro (h | ⟨h, h2⟩)
      · exact Or.inl h
      · exact Or.inr ⟨h, by omega⟩
  simp only [this]
theorem dv_1 {D : WD} {s : Nat} (x : Nat) : dvS D s 0 x = dvK D s x := by
  unfold dvS dvK
  have : ((dSp D x).toNatClampNeg < s ∨ (cu D s x ∧ x < 0)) ↔ (dSp D x).toNatClampNeg < s := by
    constructor
    · rintro (h | ⟨h, h2⟩)
      · exact h
      · omega
    · exact Or.inl
  simp only [this]
def M3 (st : St) (D : WD) (k : Nat) : Prop := (∀ s c, s < 8 → c < 8 → st.2 142 (8 * s + c) = lN (mmA D s c - (if s < k then shA D s c else 0))) ∧ (∀ s, s < 8 → st.2 141 s = lN (mx k (stkB D) (stkA D) s)) ∧ (∀ s, s < 8 → st.2 146 s = lN (mx k (snB D) (dSn D) s)) ∧ SlM st D (dvK D k)
theorem m_sends (n s : Nat) (hn : 2 ^ 27 ≤ n) (D : WD) (hD : PFl D) (hs : s < dN D) (st : St) (hP : MP st D) (hM : M3 st D s) : ∃ st1, fX11_sends n (nI s) st = some (lN (shA D s s), st1) ∧ st1.1 = st.1 ∧ (∀ o, o ≠ 141 → o ≠ 142 → o ≠ 143 → o ≠ 146 → o ≠ 151 → o ≠ 152 → st1.2 o = st.2 o) ∧ M3 st1 D (s + 1) := by
  have hN := hD.1.1
  have hs8 : s < 8 := by omega
  have i1 : inb (nI s) 8 = true := inb_nI hs8 (by decide)
  have c1 : (nI s).toNatClampNeg = s := nI_clamp (by omega)
  obtain ⟨m2, m1, m6, mS⟩ := hM
  simp only [fX11_sends, fX11_sends_s0]
  have mm : ∀ c, c < 8 → st.2 142 (8 * s + c) = lN (mmA D s c) := fun c hc => by rw [m2 s c hs8 hc, if_neg (by omega)]; rfl
  obtain ⟨s1, a0, a1, a2⟩ := m_cl2 n s hs8 (mmA D s) n 0 st (by omega) (by omega) mm (fun c hc => absurd hc (by omega))
  rw [show nI 0 = 0 from rfl] at a0
  rw [a0]
  have b1 := w_stk hD hs8
  obtain ⟨s2, d0, d1, d2⟩ := m_shares n 8 (stkA D s) (dH D) (by omega) hn hD.1.2.2.1 (by omega) (mmA D s) (fun i _ => by have := w_mm hD hs8 i; omega) s1 a2
  have e141 : s1.2 141 s = lN (stkA D s) := by rw [a1.2 141 (by decide), m1 s hs8, mx_ge (Nat.le_refl _)]
  have e10 : s1.1 130 10 = nI (dH D) := by rw [a1.1]; exact hP.2.2.2.2.2
  rw [show nI 8 = 8 from rfl] at d0
  simp only [fX11_sends_s31, i1, c1, if_true, e10, e141, d0, Option.bind_some, fX11_sends_s47]
  have J : ∀ o, o ≠ 151 → o ≠ 152 → s2.2 o = st.2 o := fun o o1 o2 => by rw [d1.2 o o2, a1.2 o o1]
  have I : s2.1 = st.1 := d1.1.trans a1.1
  obtain ⟨s3, g0, g1, g2, g3, g4, g5, g6, g7, g8, g9⟩ := m_s52 n s D hD hs n 0 s2 (by omega) (by omega) (hP.k (fun o _ _ => by rw [I])) d2 (fun x hx => by rw [J 142 (by decide) (by decide), mm x hx, if_neg (by omega)]; rfl) (by rw [J 141 (by decide) (by decide), m1 s hs8, mx_ge (Nat.le_refl _)]; rfl) (by rw [J 146 (by decide) (by decide), m6 s hs8, mx_ge (Nat.le_refl _)]; rfl) (fun x i hx hi => by rw [J 143 (by decide) (by decide), mS x i hx hi, dv_1])
  rw [if_neg (show ¬ s < 0 by omega), show nI 0 = 0 from rfl, show lN 0 = 0 from rfl] at g0
  refine ⟨s3, g0, g1.trans I, fun o o1 o2 o3 o4 o5 o6 => by rw [g2 o o1 o2 o3 o4, J o o5 o6], fun x c hx hc => ?_, fun x hx => ?_, fun x hx => ?_, fun x i hx hi => ?_⟩
  · by_cases z : x = s
    · subst z; rw [g3 c hc, if_pos (by omega)]
    · rw [g4 _ (by omega), J 142 (by decide) (by decide), m2 x c hx hc]
      by_cases y : x < s
      · rw [if_pos y, if_pos (by omega)]
      · rw [if_neg y, if_neg (by omega)]
  · by_cases z : x = s
    · subst z; rw [g5, mx_eq]
    · rw [g6 x z, J 141 (by decide) (by decide), m1 x hx, mx_ne z]
  · by_cases z : x = s
    · subst z; rw [g7, mx_eq]
    · rw [g8 x z, J 146 (by decide) (by decide), m6 x hx, mx_ne z]
  · rw [g9 x i hx hi, dv_8 hD hs8, dv_lst hD hs8]
theorem m_ph3 (n : Nat) (hn : 2 ^ 27 ≤ n) (D : WD) (hD : PFl D) : ∀ (j k : Nat) (st : St), k ≤ dN D → dN D - k < j → MP st D → M3 st D k → ∃ st1, fX11_goesBy_L271 n j (lN (sumN (fun s => shA D s s) k)) (nI k) st = fX11_goesBy_s293 n (lN (sdW D)) st1 ∧ st1.1 = st.1 ∧ (∀ o, o ≠ 141 → o ≠ 142 → o ≠ 143 → o ≠ 146 → o ≠ 151 → o ≠ 152 → st1.2 o = st.2 o) ∧ M3 st1 D (dN D) := by
  have hN := hD.1.1
  intro j
  induction j with
  | zero => intro k st _ hj; omega
  | succ j ih =>
    intro k st hk hj hP hM
    simp only [fX11_goesBy_L271, fX11_goesBy_s271, hP.1]
    by_cases q : k = dN D
    · subst q
      rw [if_pos (Int32.le_refl _)]
      exact ⟨st, rfl, rfl, fun _ _ _ _ _ _ _ => rfl, hM⟩
    · rw [if_neg (nI_ge (show k < dN D by omega) (by omega))]
      obtain ⟨s1, a0, a1, a2, a3⟩ := m_sends n k hn D hD (by omega) st hP hM
      obtain ⟨s2, g0, g1, g2, g3⟩ := ih (k + 1) s1 (by omega) (by omega) (hP.k (fun o _ _ => by rw [a1])) a3
      refine ⟨s2, ?_, g1.trans a1, fun o o1 o2 o3 o4 o5 o6 => (g2 o o1 o2 o3 o4 o5 o6).trans (a2 o o1 o2 o3 o4 o5 o6), g3⟩
      simp only [fX11_goesBy_s279, a0, Option.bind_some, fX11_goesBy_s285, lN_add, nI_1]
      exact g0
