/-! ===== the class's week: goods are sent ===== -/
def qA (D : WD) (s c : Nat) : Bool := decide (cu D s c)
theorem qA_iff {D : WD} {s c : Nat} : qA D s c = true ↔ cu D s c := decide_eq_true_iff
noncomputable def dvK (D : WD) (k x : Nat) : Nat := if (dSp D x).toNatClampNeg < k then gtA D x else 0
noncomputable def dvS (D : WD) (s c x : Nat) : Nat := if (dSp D x).toNatClampNeg < s ∨ (cu D s x ∧ x < c) then gtA D x else 0
noncomputable def soA (D : WD) (s c : Nat) : Nat := sumN (fun x => if cu D s x then gtA D x else 0) c
def DvR (st : St) (b : Nat) (D : WD) (dv : Nat → Nat) : Prop := (∀ c, c < 8 → st.1 (b + 5) c = nI (odA D c - dv c)) ∧ (∀ c, c < 8 → st.1 (b + 6) c = nI (unA D c - dv c)) ∧ (∀ c i, c < 8 → i < 6 → st.1 (b + 2) (6 * c + i) = nI (sltA D c i + (if i + 1 = (dWy D c).toNatClampNeg then dv c else 0))) ∧ ∀ c, c < 8 → st.1 (b + 3) c = nI (sumN (sltA D c) 6 + dv c)
theorem DvR.congr {st : St} {b : Nat} {D : WD} {dv dv' : Nat → Nat} (h : DvR st b D dv) (e : ∀ c, c < 8 → dv c = dv' c) : DvR st b D dv' := by
  obtain ⟨h1, h2, h3, h4⟩ := h
  exact ⟨fun c hc => by rw [h1 c hc, e c hc], fun c hc => by rw [h2 c hc, e c hc], fun c i hc hi => by rw [h3 c i hc hi, e c hc], fun c hc => by rw [h4 c hc, e c hc]⟩
theorem DvR.k {st st1 : St} {b : Nat} {D : WD} {dv : Nat → Nat} (h : DvR st b D dv) (k : ∀ o, o = b + 2 ∨ o = b + 3 ∨ o = b + 5 ∨ o = b + 6 → st1.1 o = st.1 o) : DvR st1 b D dv := by
  unfold DvR at h ⊢
  rw [k (b + 2) (by omega), k (b + 3) (by omega), k (b + 5) (by omega), k (b + 6) (by omega)]
  exact h
theorem c_app53 (n b s : Nat) (D : WD) (hb : 53 ≤ b) (hD : PFl D) (od : Nat → Nat) : ∀ (j c : Nat) (st : St), s + 1 ≤ c → c ≤ dN D → dN D - c < j → CP st D → (∀ x, x < 8 → cu D s x → st.1 (b + 5) x = nI (od x)) → st.1 18 2 = nI (cntP (qA D s) c) → (∃ d : Nat → Nat, (∀ i, i < cntP (qA D s) c → st.1 19 i = nI (d i)) ∧ ∀ x, x < c → qA D s x = true → d (cntP (qA D s) x) = od x) → ∃ st1, fX1_send_L53 n b j (nI s) (nI c) st = fX1_send_s90 n b (nI s) st1 ∧ st1.2 = st.2 ∧ (∀ o, o ≠ 18 → o ≠ 19 → st1.1 o = st.1 o) ∧ st1.1 18 2 = nI (cntP (qA D s) (dN D)) ∧ ∃ d : Nat → Nat, (∀ i, i < cntP (qA D s) (dN D) → st1.1 19 i = nI (d i)) ∧ ∀ x, x < dN D → qA D s x = true → d (cntP (qA D s) x) = od x := by
  have hN := hD.1.1
  intro j
  induction j with
  | zero => intro c st _ _ hj; omega
  | succ j ih =>
    intro c st h1 hc hj hC e5 e18 hd
    simp only [fX1_send_L53, fX1_send_s53, hC.1]
    by_cases q : c = dN D
    · subst q
      rw [if_pos (Int32.le_refl _)]
      exact ⟨st, rfl, rfl, fun _ _ _ => rfl, e18, hd⟩
    · rw [if_neg (nI_ge (show c < dN D by omega) (by omega))]
      have i1 : inb (nI c) 8 = true := inb_nI (by omega) (by decide)
      have c1 : (nI c).toNatClampNeg = c := nI_clamp (by omega)
      obtain ⟨p, hp, ep, ecp, hk⟩ := w_sup hD (show c < dN D by omega) (by omega)
      have e3 : st.1 3 c = nI p := by rw [hC.2.2.1]; exact ep
      simp only [fX1_send_s62, i1, c1, if_true, e3]
      by_cases z : cu D s c
      · have zq : qA D s c = true := qA_iff.mpr z
        have zp : nI p = nI s := ep.symm.trans z.2.2
        rw [if_pos zp]
        have hcl := cnt_le (qA D s) c
        simp only [fX1_send_s73, i1, c1, if_true, e5 c (by omega) z, c_app n 18 (cntP (qA D s) c) _ st (by omega) e18, Option.bind_some, fX1_send_s84, nI_1]
        have hC1 : CP (setI (setI st (18 + 1) (cntP (qA D s) c) (nI (od c))) 18 2 (nI (cntP (qA D s) c + 1))) D := hC.k (fun o ho => by rw [sI_o (by omega), sI_o (by omega)])
        obtain ⟨d, hd1, hd2⟩ := hd
        obtain ⟨st2, k0, k1, k2, k3, k4⟩ := ih (c + 1) _ (by omega) (by omega) (by omega) hC1 (fun x hx hq => by rw [sI_o (show b + 5 ≠ 18 by omega), sI_o (show b + 5 ≠ 18 + 1 by omega)]; exact e5 x hx hq) (by rw [sI_at, cnt_pos zq]) ⟨pt1 d (cntP (qA D s) c) (od c), fun i hi => by
          unfold pt1
          rw [sI_o (show 19 ≠ 18 by decide)]
          by_cases y : i = cntP (qA D s) c
          · subst y; rw [sI_at, if_pos rfl]
          · rw [sI_k y, if_neg y]; rw [cnt_pos zq] at hi; exact hd1 i (by omega), fun x hx hqx => by
          unfold pt1
          by_cases y : x = c
          · subst y; rw [if_pos rfl]
          · have := cnt_lt (q := qA D s) (show x < c by omega) hqx
            rw [if_neg (by omega)]; exact hd2 x (by omega) hqx⟩
        refine ⟨st2, k0, k1, fun o o1 o2 => ?_, k3, k4⟩
        rw [k2 o o1 o2, sI_o o1, sI_o o2]
      · have zq : ¬ qA D s c = true := fun w => z (qA_iff.mp w)
        rw [if_neg (fun w => z ⟨by omega, by omega, ep.trans w⟩)]
        simp only [fX1_send_s84, nI_1]
        obtain ⟨d, hd1, hd2⟩ := hd
        obtain ⟨st2, k0, k1, k2, k3, k4⟩ := ih (c + 1) st (by omega) (by omega) (by omega) hC e5 (by rw [cnt_neg zq]; exact e18) ⟨d, fun i hi => by rw [cnt_neg zq] at hi; exact hd1 i hi, fun x hx hqx => by
          by_cases y : x = c
          · subst y; exact absurd hqx zq
          · exact hd2 x (by omega) hqx⟩
        exact ⟨st2, k0, k1, k2, k3, k4⟩
theorem c_put (n b c y g : Nat) (st : St) (hc : c < 8) (hy1 : 1 ≤ y) (hy6 : y ≤ 6) (e4 : st.1 4 c = nI y) : fX1_putOnWay n b (nI c) (nI g) st = some ((), setI (setI st (b + 2) (6 * c + (y - 1)) (st.1 (b + 2) (6 * c + (y - 1)) + nI g)) (b + 3) c (st.1 (b + 3) c + nI g)) := by
  have i1 : inb (nI c) 8 = true := inb_nI (by omega) (by decide)
  have c1 : (nI c).toNatClampNeg = c := nI_clamp (by omega)
  have ei : nI c * 6 + nI y - 1 = nI (6 * c + (y - 1)) := by rw [show (6 : Int32) = nI 6 from rfl, pk_mul, nI_add, show c * 6 + y = (6 * c + (y - 1)) + 1 by omega, nI_pred]
  simp only [fX1_putOnWay, fX1_putOnWay_s0, i1, c1, if_true, e4, ei, inb_nI (show 6 * c + (y - 1) < 48 by omega) (by decide), nI_clamp (show 6 * c + (y - 1) < 2 ^ 31 by omega), fX1_putOnWay_s22, fX1_putOnWay_s32]
  rw [sI_o (show b + 3 ≠ b + 2 by omega)]
theorem w_wy {D : WD} (hD : PFl D) {c : Nat} (hc : c < dN D) : ∃ y, 1 ≤ y ∧ y ≤ 6 ∧ dWy D c = nI y ∧ (dWy D c).toNatClampNeg = y := by
  obtain ⟨y, h1, h6, e⟩ := (hD.2.1 c hc).2.2.1
  exact ⟨y, h1, h6, e, by rw [e, nI_clamp (by omega)]⟩
theorem dv_step {D : WD} (hD : PFl D) {s c : Nat} (hs : s < 8) (z : cu D s c) : (∀ x, x ≠ c → dvS D s (c + 1) x = dvS D s c x) ∧ dvS D s c c = 0 ∧ dvS D s (c + 1) c = gtA D c := by
  refine ⟨fun x hx => ?_, ?_, ?_⟩
  · unfold dvS
    have : ((dSp D x).toNatClampNeg < s ∨ (cu D s x ∧ x < c + 1)) ↔ ((dSp D x).toNatClampNeg < s ∨ (cu D s x ∧ x < c)) := by
      constructor
      · rintro (h | ⟨h, h2⟩)
        · exact Or.inl h
        · exact Or.inr ⟨h, by omega⟩
      · rintro (h | ⟨h, h2⟩)
        · exact Or.inl h
        · exact Or.inr ⟨h, by omega⟩
    simp only [this]
  · unfold dvS
    rw [if_neg]
    rintro (h | ⟨h, h2⟩)
    · have := (w_cu hD hs z).2.1; omega
    · omega
  · unfold dvS
    rw [if_pos (Or.inr ⟨z, by omega⟩)]
theorem dv_no {D : WD} {s c : Nat} (z : ¬ cu D s c) (x : Nat) : dvS D s (c + 1) x = dvS D s c x := by
  unfold dvS
  have : ((dSp D x).toNatClampNeg < s ∨ (cu D s x ∧ x < c + 1)) ↔ ((dSp D x).toNatClampNeg < s ∨ (cu D s x ∧ x < c)) := by
    constructor
    · rintro (h | ⟨h, h2⟩)
      · exact Or.inl h
      · by_cases y : x = c
        · subst y; exact absurd h z
        · exact Or.inr ⟨h, by omega⟩
    · rintro (h | ⟨h, h2⟩)
      · exact Or.inl h
      · exact Or.inr ⟨h, by omega⟩
  simp only [this]
theorem dv_fst {D : WD} (hD : PFl D) {s : Nat} (hs : s < 8) (x : Nat) : dvS D s (s + 1) x = dvK D s x := by
  unfold dvS dvK
  have : ((dSp D x).toNatClampNeg < s ∨ (cu D s x ∧ x < s + 1)) ↔ (dSp D x).toNatClampNeg < s := by
    constructor
    · rintro (h | ⟨h, h2⟩)
      · exact h
      · have := (w_cu hD hs h).1; omega
    · exact Or.inl
  simp only [this]
theorem dv_lst {D : WD} (hD : PFl D) {s : Nat} (hs : s < 8) (x : Nat) : dvS D s (dN D) x = dvK D (s + 1) x := by
  unfold dvS dvK
  by_cases z : x < dN D ∧ x ≠ 0
  · obtain ⟨p, hp, ep, ecp, hk⟩ := w_sup hD z.1 z.2
    have hN := hD.1.1
    have : ((dSp D x).toNatClampNeg < s ∨ (cu D s x ∧ x < dN D)) ↔ (dSp D x).toNatClampNeg < s + 1 := by
      rw [ecp]
      constructor
      · rintro (h | ⟨h, h2⟩)
        · omega
        · have := (w_cu hD hs h).2.1; omega
      · intro h
        by_cases y : p = s
        · subst y; exact Or.inr ⟨⟨z.1, z.2, ep⟩, z.1⟩
        · exact Or.inl (by omega)
    simp only [this]
  · rw [w_gt0 D (show x = 0 ∨ dN D ≤ x by omega)]
    split <;> split <;> rfl
theorem c_del (n b s : Nat) (D : WD) (hb : 53 ≤ b) (hD : PFl D) (hs : s < 8) : ∀ (j c : Nat) (st : St), s + 1 ≤ c → c ≤ dN D → dN D - c < j → CP st D → st.1 18 2 = nI (cntP (qA D s) 8) → (∀ x, x < 8 → qA D s x = true → st.1 20 (cntP (qA D s) x) = nI (gtA D x)) → DvR st b D (dvS D s c) → ∃ st1, fX1_deliver_L11 n b j (nI s) (nI (soA D s c)) (nI (cntP (qA D s) c)) (nI c) st = some (nI (soA D s (dN D)), st1) ∧ st1.2 = st.2 ∧ (∀ o, o ≠ b + 2 → o ≠ b + 3 → o ≠ b + 5 → o ≠ b + 6 → st1.1 o = st.1 o) ∧ DvR st1 b D (dvS D s (dN D)) := by
  have hN := hD.1.1
  intro j
  induction j with
  | zero => intro c st _ _ hj; omega
  | succ j ih =>
    intro c st h1 hc hj hC e18 e20 hV
    simp only [fX1_deliver_L11, fX1_deliver_s11, hC.1]
    by_cases q : c = dN D
    · subst q
      rw [if_pos (Int32.le_refl _)]
      exact ⟨st, rfl, rfl, fun _ _ _ _ _ => rfl, hV⟩
    · rw [if_neg (nI_ge (show c < dN D by omega) (by omega))]
      have hc8 : c < 8 := by omega
      have i1 : inb (nI c) 8 = true := inb_nI (by omega) (by decide)
      have c1 : (nI c).toNatClampNeg = c := nI_clamp (by omega)
      obtain ⟨p, hp, ep, ecp, hk⟩ := w_sup hD (show c < dN D by omega) (by omega)
      have e3 : st.1 3 c = nI p := by rw [hC.2.2.1]; exact ep
      simp only [fX1_deliver_s20, i1, c1, if_true, e3]
      by_cases z : cu D s c
      · have zq : qA D s c = true := qA_iff.mpr z
        have zp : nI p = nI s := ep.symm.trans z.2.2
        have hcl := cnt_lt (q := qA D s) hc8 zq
        have hc2 := cnt_le (qA D s) 8
        have i2 : inb (nI (cntP (qA D s) c)) 8 = true := inb_nI (by omega) (by decide)
        have c2 : (nI (cntP (qA D s) c)).toNatClampNeg = cntP (qA D s) c := nI_clamp (by omega)
        rw [if_pos zp]
        simp only [fX1_deliver_s31, e18]
        rw [if_neg (nI_ge hcl (by omega))]
        obtain ⟨y, hy1, hy6, ey, cy⟩ := w_wy hD (show c < dN D by omega)
        have e4 : st.1 4 c = nI y := by rw [hC.2.2.2.1]; exact ey
        obtain ⟨d1, d2, d3⟩ := dv_step hD hs z
        obtain ⟨v5, v6, v2, v3⟩ := hV
        have a5 := v5 c hc8
        have a6 := v6 c hc8
        have a2 := v2 c (y - 1) hc8 (by omega)
        have a3 := v3 c hc8
        rw [d2] at a5 a6 a2 a3
        have g5 := w_gto hD c
        have g6 := w_gtu hD c
        simp only [fX1_deliver_s40, i1, i2, c1, c2, if_true, e20 c hc8 zq, a5, nI_1, Nat.sub_zero, pk_sub g5, fX1_deliver_s64]
        have b6 : (setI st (b + 5) c (nI (odA D c - gtA D c))).1 (b + 6) c = nI (unA D c) := by rw [sI_o (show b + 6 ≠ b + 5 by omega), a6, Nat.sub_zero]
        rw [b6, pk_sub g6]
        have b4 : (setI (setI st (b + 5) c (nI (odA D c - gtA D c))) (b + 6) c (nI (unA D c - gtA D c))).1 4 c = nI y := by rw [sI_o (show 4 ≠ b + 6 by omega), sI_o (show 4 ≠ b + 5 by omega)]; exact e4
        simp only [fX1_deliver_s76, c_put n b c y (gtA D c) _ hc8 hy1 hy6 b4, Option.bind_some, fX1_deliver_s85, fX1_deliver_s92, nI_add, nI_1]
        have eso : soA D s c + gtA D c = soA D s (c + 1) := by unfold soA; rw [sumN, if_pos z]
        rw [eso, ← cnt_pos zq]
        have b2 : (setI (setI st (b + 5) c (nI (odA D c - gtA D c))) (b + 6) c (nI (unA D c - gtA D c))).1 (b + 2) (6 * c + (y - 1)) = nI (sltA D c (y - 1)) := by rw [sI_o (show b + 2 ≠ b + 6 by omega), sI_o (show b + 2 ≠ b + 5 by omega), a2]; split <;> rfl
        have b3 : (setI (setI st (b + 5) c (nI (odA D c - gtA D c))) (b + 6) c (nI (unA D c - gtA D c))).1 (b + 3) c = nI (sumN (sltA D c) 6) := by rw [sI_o (show b + 3 ≠ b + 6 by omega), sI_o (show b + 3 ≠ b + 5 by omega), a3]; rfl
        rw [b2, b3, nI_add, nI_add]
        have fr : ∀ o, o ≠ b + 2 → o ≠ b + 3 → o ≠ b + 5 → o ≠ b + 6 → (setI (setI (setI (setI st (b + 5) c (nI (odA D c - gtA D c))) (b + 6) c (nI (unA D c - gtA D c))) (b + 2) (6 * c + (y - 1)) (nI (sltA D c (y - 1) + gtA D c))) (b + 3) c (nI (sumN (sltA D c) 6 + gtA D c))).1 o = st.1 o := fun o o1 o2 o3 o4 => by rw [sI_o o2, sI_o o1, sI_o o4, sI_o o3]
        obtain ⟨st2, k0, k1, k2, k3⟩ := ih (c + 1) _ (by omega) (by omega) (by omega) (hC.k (fun o ho => fr o (by omega) (by omega) (by omega) (by omega))) (by rw [fr 18 (by omega) (by omega) (by omega) (by omega)]; exact e18) (fun x hx hq => by rw [fr 20 (by omega) (by omega) (by omega) (by omega)]; exact e20 x hx hq) (by
          refine ⟨fun x hx => ?_, fun x hx => ?_, fun x i hx hi => ?_, fun x hx => ?_⟩
          · rw [sI_o (show b + 5 ≠ b + 3 by omega), sI_o (show b + 5 ≠ b + 2 by omega), sI_o (show b + 5 ≠ b + 6 by omega)]
            by_cases w : x = c
            · subst w; rw [sI_at, d3]
            · rw [sI_k w, d1 x w]; exact v5 x hx
          · rw [sI_o (show b + 6 ≠ b + 3 by omega), sI_o (show b + 6 ≠ b + 2 by omega)]
            by_cases w : x = c
            · subst w; rw [sI_at, d3]
            · rw [sI_k w, sI_o (show b + 6 ≠ b + 5 by omega), d1 x w]; exact v6 x hx
          · rw [sI_o (show b + 2 ≠ b + 3 by omega)]
            by_cases w : x = c
            · subst w
              rw [d3, cy]
              by_cases t : i = y - 1
              · subst t; rw [sI_at, if_pos (by omega)]
              · rw [sI_k (by omega), sI_o (show b + 2 ≠ b + 6 by omega), sI_o (show b + 2 ≠ b + 5 by omega), v2 x i hx hi, d2, cy, if_neg (by omega), if_neg (by omega)]
            · rw [sI_k (by omega), sI_o (show b + 2 ≠ b + 6 by omega), sI_o (show b + 2 ≠ b + 5 by omega), d1 x w]; exact v2 x i hx hi
          · by_cases w : x = c
            · subst w; rw [sI_at, d3]
            · rw [sI_k w, sI_o (show b + 3 ≠ b + 2 by omega), sI_o (show b + 3 ≠ b + 6 by omega), sI_o (show b + 3 ≠ b + 5 by omega), d1 x w]; exact v3 x hx)
        exact ⟨st2, k0, k1, fun o o1 o2 o3 o4 => by rw [k2 o o1 o2 o3 o4, fr o o1 o2 o3 o4], k3⟩
      · have zq : ¬ qA D s c = true := fun w => z (qA_iff.mp w)
        rw [if_neg (fun w => z ⟨by omega, by omega, ep.trans w⟩)]
        simp only [fX1_deliver_s92, nI_1]
        have eso : soA D s c = soA D s (c + 1) := by unfold soA; rw [sumN, if_neg z]; rfl
        rw [eso, ← cnt_neg zq]
        exact ih (c + 1) st (by omega) (by omega) (by omega) hC e18 e20 (hV.congr (fun x _ => (dv_no z x).symm))
def R3 (st : St) (b : Nat) (D : WD) (sd k : Nat) : Prop := (∀ s, s < 8 → st.1 (b + 1) s = nI (mx k (stkB D) (stkA D) s)) ∧ (∀ s, s < 8 → st.1 (b + 4) s = nI (mx k (owB D) (owA D) s)) ∧ (∀ s, s < 8 → st.1 (b + 7) s = nI (mx k (snB D) (dSn D) s)) ∧ DvR st b D (dvK D k) ∧ st.2 b 12 = lN (sd + sumN (fun s => shA D s s) k)
theorem c_snd (n b s : Nat) (D : WD) (hD : PFl D) (hs : s < dN D) (st : St) (h1 : st.1 (b + 1) s = nI (stkA D s)) (h4 : st.1 (b + 4) s = nI (owA D s)) (h7 : st.1 (b + 7) s = nI (dSn D s)) : fX1_send_s113 n b (nI s) (nI (outA D s)) st = some ((), setI (setI (setI st (b + 1) s (nI (stkB D s))) (b + 4) s (nI (owB D s))) (b + 7) s (nI (snB D s))) := by
  have hN := hD.1.1
  have i1 : inb (nI s) 8 = true := inb_nI (by omega) (by decide)
  have c1 : (nI s).toNatClampNeg = s := nI_clamp (by omega)
  have q1 := w_out D s
  have q2 := w_outo hD (show s < 8 by omega)
  simp only [fX1_send_s113, i1, c1, if_true, h1, pk_sub q1, fX1_send_s124, fX1_send_s135, fX1_send_s146]
  rw [sI_o (show b + 4 ≠ b + 1 by omega), h4, pk_sub q2, sI_o (show b + 7 ≠ b + 4 by omega), sI_o (show b + 7 ≠ b + 1 by omega), h7, nI_add]
  rfl
theorem c_send (n b s sd : Nat) (hn : 200 ≤ n) (D : WD) (hb : 53 ≤ b) (hD : PFl D) (hs : s < dN D) (st : St) (hC : CP st D) (hR : R3 st b D sd s) : ∃ st1, fX1_send n b (nI s) st = some ((), st1) ∧ R3 st1 b D sd (s + 1) ∧ (∀ o, o < 18 ∨ (20 < o ∧ (o < b + 1 ∨ b + 7 < o)) → st1.1 o = st.1 o) ∧ (∀ o, o ≠ b → st1.2 o = st.2 o) ∧ st1.2 b 11 = st.2 b 11 := by
  have hN := hD.1.1
  have hs8 : s < 8 := by omega
  have i1 : inb (nI s) 8 = true := inb_nI (by omega) (by decide)
  have c1 : (nI s).toNatClampNeg = s := nI_clamp (by omega)
  obtain ⟨r1, r4, r7, rV, rS⟩ := hR
  have a1 := r1 s hs8
  have a4 := r4 s hs8
  have a7 := r7 s hs8
  rw [mx_ge (Nat.le_refl _)] at a1 a4 a7
  have b1 := w_stk hD hs8
  have b4 := w_ow hD hs8
  obtain ⟨k0, ek, hk⟩ := pshop n (nI s) st hN hC.1
  simp only [fX1_send, fX1_send_s0, ek, Option.bind_some, fX1_send_s8]
  -- what the three last rows make of it
  have fin : ∀ (st2 : St), (∀ o, o = b + 1 ∨ o = b + 4 ∨ o = b + 7 → st2.1 o = st.1 o) → DvR st2 b D (dvK D (s + 1)) → st2.2 b 12 = lN (sd + sumN (fun s => shA D s s) (s + 1)) → fX1_send_s113 n b (nI s) (nI (outA D s)) st2 = some ((), setI (setI (setI st2 (b + 1) s (nI (stkB D s))) (b + 4) s (nI (owB D s))) (b + 7) s (nI (snB D s))) ∧ R3 (setI (setI (setI st2 (b + 1) s (nI (stkB D s))) (b + 4) s (nI (owB D s))) (b + 7) s (nI (snB D s))) b D sd (s + 1) := by
    intro st2 h2 hV hS
    refine ⟨c_snd n b s D hD hs st2 (by rw [h2 (b + 1) (by omega)]; exact a1) (by rw [h2 (b + 4) (by omega)]; exact a4) (by rw [h2 (b + 7) (by omega)]; exact a7), fun x hx => ?_, fun x hx => ?_, fun x hx => ?_, hV.k (fun o ho => by rw [sI_o (by omega), sI_o (by omega), sI_o (by omega)]), hS⟩
    · rw [sI_o (show b + 1 ≠ b + 7 by omega), sI_o (show b + 1 ≠ b + 4 by omega)]
      by_cases w : x = s
      · subst w; rw [sI_at, mx_eq]
      · rw [sI_k w, mx_ne w, h2 (b + 1) (by omega)]; exact r1 x hx
    · rw [sI_o (show b + 4 ≠ b + 7 by omega)]
      by_cases w : x = s
      · subst w; rw [sI_at, mx_eq]
      · rw [sI_k w, sI_o (show b + 4 ≠ b + 1 by omega), mx_ne w, h2 (b + 4) (by omega)]; exact r4 x hx
    · by_cases w : x = s
      · subst w; rw [sI_at, mx_eq]
      · rw [sI_k w, sI_o (show b + 7 ≠ b + 4 by omega), sI_o (show b + 7 ≠ b + 1 by omega), mx_ne w, h2 (b + 7) (by omega)]; exact r7 x hx
  rcases hk with ⟨rfl, h3⟩ | ⟨rfl, h3⟩
  · have k3 : dKd D s = 3 := by have := h3.2; rw [c1, hC.2.1] at this; exact this
    obtain ⟨o1, o2, o3⟩ := w_outS hD hs8 k3
    have hmin : (if nI (owA D s) < nI (stkA D s) then nI (owA D s) else nI (stkA D s)) = nI (outA D s) := by
      rw [o1, o3, o2]
      by_cases w : osA D s < stkA D s
      · rw [if_pos w, if_pos (nI_lt w (by omega))]
      · rw [if_neg w, if_neg (nI_nlt (by omega) (by rw [o2] at b4; omega))]
    have hol := w_out D s
    rw [if_neg (show ¬ (1 : Int32) = 0 by decide)]
    simp only [fX1_send_s11, i1, c1, if_true, a1, a4, hmin, fX1_send_s40, rS, nI_l (show outA D s < 2 ^ 31 by omega), lN_add]
    have hVn : ∀ x, x < 8 → dvK D s x = dvK D (s + 1) x := fun x hx => by
      unfold dvK
      by_cases w : x < dN D ∧ x ≠ 0
      · obtain ⟨p, hp, ep, ecp, hkp⟩ := w_sup hD w.1 w.2
        rw [ecp]
        have : p ≠ s := fun q => hkp (q ▸ k3)
        have : (p < s) ↔ (p < s + 1) := by omega
        simp only [this]
      · rw [w_gt0 D (show x = 0 ∨ dN D ≤ x by omega)]; split <;> split <;> rfl
    obtain ⟨f1, f2⟩ := fin (setJ st b 12 (lN (sd + sumN (fun s => shA D s s) s + outA D s))) (fun o _ => rfl) ((rV.congr hVn).k (fun _ _ => rfl)) (by rw [sJ_at, sumN, o1, Nat.add_assoc])
    refine ⟨_, f1, f2, fun o ho => ?_, fun o ho => ?_, ?_⟩
    · rw [sI_o (by omega), sI_o (by omega), sI_o (by omega), sJ_1]
    · show (setJ st b 12 _).2 o = _
      rw [sJ_o ho]
    · show (setJ st b 12 _).2 b 11 = _
      rw [sJ_k (by decide)]
  · have k3 : dKd D s ≠ 3 := fun z => h3 ⟨st_to (by omega) hs, by rw [c1, hC.2.1]; exact z⟩
    obtain ⟨o1, o2⟩ := w_outC hD hs8 k3
    rw [if_pos rfl]
    simp only [fX1_send_s43, fX1_send_s48, nI_1]
    have hcnt0 : cntP (qA D s) (s + 1) = 0 := by
      have : ∀ k, k ≤ s + 1 → cntP (qA D s) k = 0 := by
        intro k
        induction k with
        | zero => intro _; rfl
        | succ k ih => intro hk; rw [cnt_neg (fun w => by have := (w_cu hD hs8 (qA_iff.mp w)).1; omega)]; exact ih (by omega)
      exact this _ (Nat.le_refl _)
    have hcnt8 : cntP (qA D s) 8 = cntP (qA D s) (dN D) := by
      unfold cntP
      exact sumN_cut 8 hN (fun c h1 h2 => by rw [if_neg (fun w => by have := (qA_iff.mp w).1; omega)])
    have hdv0 : ∀ x, x < 8 → cu D s x → st.1 (b + 5) x = nI (odA D x) := fun x hx hq => by
      rw [rV.1 x hx]
      unfold dvK
      rw [if_neg (by have := (w_cu hD hs8 hq).2.1; omega)]; rfl
    obtain ⟨st2, p0, p1, p2, p3, d, p4, p5⟩ := c_app53 n b s D hb hD (odA D) n (s + 1) (setI st 18 2 0) (Nat.le_refl _) (by omega) (by omega) (hC.k (fun o ho => by rw [sI_o (by omega)])) (fun x hx hq => by rw [sI_o (by omega)]; exact hdv0 x hx hq) (by rw [sI_at, hcnt0]; rfl) ⟨fun _ => 0, fun i hi => by rw [hcnt0] at hi; omega, fun x hx hq => by have := (w_cu hD hs8 (qA_iff.mp hq)).1; omega⟩
    rw [p0]
    have hC2 : CP st2 D := hC.k (fun o ho => by rw [p2 o (by omega) (by omega), sI_o (by omega)])
    have e1 : st2.1 (b + 1) s = nI (stkA D s) := by rw [p2 _ (by omega) (by omega), sI_o (by omega)]; exact a1
    have hdle : ∀ i, i < cntP (qA D s) (dN D) → d i < 2 ^ 26 := by
      -- every place belongs to a customer
      have sur : ∀ k, ∀ i, i < cntP (qA D s) k → ∃ x, x < k ∧ qA D s x = true ∧ cntP (qA D s) x = i := by
        intro k
        induction k with
        | zero => intro i hi; exact absurd hi (by unfold cntP; rw [sumN]; omega)
        | succ k ih =>
          intro i hi
          by_cases w : qA D s k = true
          · rw [cnt_pos w] at hi
            by_cases y : i = cntP (qA D s) k
            · exact ⟨k, by omega, w, y.symm⟩
            · obtain ⟨x, h1, h2, h3⟩ := ih i (by omega)
              exact ⟨x, by omega, h2, h3⟩
          · rw [cnt_neg w] at hi
            obtain ⟨x, h1, h2, h3⟩ := ih i hi
            exact ⟨x, by omega, h2, h3⟩
      intro i hi
      obtain ⟨x, h1, h2, h3⟩ := sur _ i hi
      rw [← h3, p5 x h1 h2]
      have := w_od hD x
      omega
    have hcl := cnt_le (qA D s) (dN D)
    obtain ⟨st3, s0, s1, s2⟩ := c_split n 18 (cntP (qA D s) (dN D)) (stkA D s) (dH D) (by omega) (by omega) hD.1.2.2.1 (by omega) d hdle st2 ⟨p3, p4⟩
    simp only [fX1_send_s90, i1, c1, if_true, hC2.2.2.2.2.2, e1, s0, Option.bind_some, fX1_send_s104, fX1_deliver, fX1_deliver_s0, nI_1]
    have hgot : ∀ x, x < 8 → qA D s x = true → st3.1 20 (cntP (qA D s) x) = nI (gtA D x) := fun x hx hq => by
      have hxN := (qA_iff.mp hq).1
      rw [s2 _ (cnt_lt hxN hq), ← hcnt8]
      congr 1
      rw [w_gt hD hs8 (qA_iff.mp hq)]
      unfold shA
      refine sh_cmp (dH D) (stkA D s) 8 (qA D s) (mmA D s) d (fun y hy hqy => ?_) (fun y hy hqy => ?_) hx hq
      · have := qA_iff.mp hqy
        have h2 := (w_cu hD hs8 this).1
        unfold mmA
        rw [if_neg (by omega), if_pos this, p5 y this.1 hqy]
      · unfold mmA
        by_cases w : y = s
        · rw [if_pos w]; exact w_os0 hD hs8 k3
        · rw [if_neg w, if_neg (fun z => hqy (qA_iff.mpr z))]
    have fr3 : ∀ o, o ≠ 18 → o ≠ 19 → o ≠ 20 → st3.1 o = st.1 o := fun o q1 q2 q3 => by rw [s1.2 o q3, p2 o q1 q2, sI_o q1]
    have hC3 : CP st3 D := hC.k (fun o ho => fr3 o (by omega) (by omega) (by omega))
    obtain ⟨st4, t0, t1, t2, t3⟩ := c_del n b s D hb hD hs8 n (s + 1) st3 (Nat.le_refl _) (by omega) (by omega) hC3 (by rw [s1.2 18 (by decide), p3, hcnt8]) hgot ((rV.congr (fun x _ => (dv_fst hD hs8 x).symm)).k (fun o ho => fr3 o (by omega) (by omega) (by omega)))
    have eso : soA D s (s + 1) = 0 := by
      unfold soA
      have : ∀ k, k ≤ s + 1 → sumN (fun x => if cu D s x then gtA D x else 0) k = 0 := by
        intro k
        induction k with
        | zero => intro _; rfl
        | succ k ih => intro hk; rw [sumN, if_neg (fun w => by have := (w_cu hD hs8 w).1; omega), ih (by omega)]
      exact this _ (Nat.le_refl _)
    have eso2 : soA D s (dN D) = outA D s := by
      rw [o2]
      unfold soA
      exact (sumN_cut 8 hN (fun c h1 h2 => by rw [if_neg (fun w => by have := w.1; omega)])).symm
    rw [eso, hcnt0, eso2] at t0
    rw [show nI 0 = 0 from rfl] at t0
    rw [t0]
    simp only [Option.bind_some, fX1_send_s111]
    have hJ : st4.2 = st.2 := by rw [t1, s1.1, p1, sI_2]
    obtain ⟨f1, f2⟩ := fin st4 (fun o ho => by rw [t2 o (by omega) (by omega) (by omega) (by omega), fr3 o (by omega) (by omega) (by omega)]) (t3.congr (fun x _ => dv_lst hD hs8 x)) (by rw [hJ, rS, sumN, o1]; rfl)
    refine ⟨_, f1, f2, fun o ho => ?_, fun o ho => ?_, ?_⟩
    · rw [sI_o (by omega), sI_o (by omega), sI_o (by omega), t2 o (by omega) (by omega) (by omega) (by omega), fr3 o (by omega) (by omega) (by omega)]
    · show st4.2 o = _
      rw [hJ]
    · show st4.2 b 11 = _
      rw [hJ]
theorem c_ph3 (n b b4 sd : Nat) (hn : 200 ≤ n) (D : WD) (hb : 53 ≤ b) (hD : PFl D) (v5 : Int64) : ∀ (j k : Nat) (st : St), k ≤ dN D → dN D - k < j → CP st D → R3 st b D sd k → ∃ st1, fX1_pass_L73 n b b4 j v5 (nI k) st = fX1_pass_s96 n b b4 v5 st1 ∧ R3 st1 b D sd (dN D) ∧ (∀ o, o < 18 ∨ (20 < o ∧ (o < b + 1 ∨ b + 7 < o)) → st1.1 o = st.1 o) ∧ (∀ o, o ≠ b → st1.2 o = st.2 o) ∧ st1.2 b 11 = st.2 b 11 := by
  have hN := hD.1.1
  intro j
  induction j with
  | zero => intro k st _ hj; omega
  | succ j ih =>
    intro k st hk hj hC hR
    simp only [fX1_pass_L73, fX1_pass_s73, hC.1]
    by_cases q : k = dN D
    · subst q
      rw [if_pos (Int32.le_refl _)]
      exact ⟨st, rfl, hR, fun _ _ => rfl, fun _ _ => rfl, rfl⟩
    · rw [if_neg (nI_ge (show k < dN D by omega) (by omega))]
      obtain ⟨st1, g0, g1, g2, g3, g4⟩ := c_send n b k sd hn D hb hD (by omega) st hC hR
      obtain ⟨st2, k0, k1, k2, k3, k4⟩ := ih (k + 1) st1 (by omega) (by omega) (hC.k (fun o ho => g2 o (by omega))) g1
      refine ⟨st2, ?_, k1, fun o ho => (k2 o ho).trans (g2 o ho), fun o ho => (k3 o ho).trans (g3 o ho), k4.trans g4⟩
      simp only [fX1_pass_s82, g0, Option.bind_some, fX1_pass_s90, nI_1]
      exact k0
