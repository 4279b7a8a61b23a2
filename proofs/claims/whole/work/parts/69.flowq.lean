/-! ===== what the flow answers: bounds, sums of the reference ===== -/
theorem sumN_le {f : Nat → Nat} : ∀ (k s : Nat), s < k → f s ≤ sumN f k := by
  intro k
  induction k with
  | zero => intro s h; omega
  | succ k ih =>
    intro s h
    rw [sumN]
    by_cases q : s = k
    · subst q; omega
    · have := ih s (by omega); omega
theorem sumN_bd {f : Nat → Nat} {B : Nat} : ∀ k, (∀ i, i < k → f i ≤ B) → sumN f k ≤ k * B := by
  intro k
  induction k with
  | zero => intro _; rw [sumN]; omega
  | succ k ih =>
    intro h
    rw [sumN]
    have h1 := ih (fun i hi => h i (by omega))
    have h2 := h k (by omega)
    rw [Nat.add_mul]
    omega
section
variable {st : St} {b N w : Nat} {kd sp dl : Nat → Int32} {fs md sd : Nat} {stk : Nat → Nat} {slt : Nat → Nat → Nat} {od osh snt : Nat → Nat} {orH snH : Nat → Nat → Nat}
theorem flow_stk (h : FlowN st b N w kd sp dl fs md sd stk slt od osh snt orH snH) (hw : w ≤ 400) (hf : fs ≤ 79992) {s : Nat} (hs : s < 8) : stk s + sumN (slt s) 6 ≤ 4079592 := by
  obtain ⟨c1, c2, -⟩ := h.2.2.2.2.2.2.2.2.2.2.2.2.2.2.2.2
  have := sumN_le (f := fun s => stk s + sumN (slt s) 6) 8 s hs
  omega
theorem flow_od (h : FlowN st b N w kd sp dl fs md sd stk slt od osh snt orH snH) (hw : w ≤ 400) (c : Nat) : od c ≤ 3999600 := by
  have := h.2.2.2.2.2.2.2.2.2.2.2.2.2.2.2.2.2.2.2.1 c
  omega
theorem flow_osh (h : FlowN st b N w kd sp dl fs md sd stk slt od osh snt orH snH) (hw : w ≤ 400) (c : Nat) : osh c ≤ 399600 := by
  have := h.2.2.2.2.2.2.2.2.2.2.2.2.2.2.2.2.2.2.2.2.1 c
  omega
theorem flow_or (h : FlowN st b N w kd sp dl fs md sd stk slt od osh snt orH snH) (u s : Nat) : orH u s ≤ 9999 := h.2.2.2.2.2.2.2.2.2.2.2.2.2.2.2.2.2.2.1 u s
theorem flow_sn (h : FlowN st b N w kd sp dl fs md sd stk slt od osh snt orH snH) (u s : Nat) : snH u s ≤ 79992 := h.2.2.2.2.2.2.2.2.2.2.2.2.2.2.2.2.2.2.2.2.2.1 u s
theorem flow_snt (h : FlowN st b N w kd sp dl fs md sd stk slt od osh snt orH snH) (hw : w ≤ 400) (s : Nat) : snt s ≤ 1680000000 := by
  have := h.2.2.2.2.2.2.2.2.2.2.2.2.2.2.2.2.2.2.2.2.2.2 s
  omega
theorem flow_pend (h : FlowN st b N w kd sp dl fs md sd stk slt od osh snt orH snH) (dly c d : Nat) : pend orH w dly c d ≤ 9999 := by
  unfold pend
  split
  · exact flow_or h _ _
  · omega
/-- all that a stage owes -/
def owesN (N : Nat) (sp : Nat → Int32) (od osh : Nat → Nat) (s : Nat) : Nat := osh s + sumN (fun c => if c < N ∧ c ≠ 0 ∧ sp c = nI s then od c else 0) 8
theorem flow_owes (h : FlowN st b N w kd sp dl fs md sd stk slt od osh snt orH snH) (hw : w ≤ 400) (s : Nat) : owesN N sp od osh s ≤ 32396400 := by
  unfold owesN
  have h1 := flow_osh h hw s
  have h2 := sumN_bd (f := fun c => if c < N ∧ c ≠ 0 ∧ sp c = nI s then od c else 0) (B := 3999600) 8 (fun c _ => by
    split
    · exact flow_od h hw c
    · omega)
  omega
end
theorem i8mul (s i : Nat) : (8 : Int32) * nI s + nI i = nI (8 * s + i) := by rw [show (8 : Int32) = nI 8 from rfl, pk_mul, nI_add]
theorem i7mul (s i : Nat) : (7 : Int32) * nI s + nI i = nI (7 * s + i) := by rw [show (7 : Int32) = nI 7 from rfl, pk_mul, nI_add]
theorem i4mul (s i : Nat) : (4 : Int32) * nI s + nI i = nI (4 * s + i) := by rw [show (4 : Int32) = nI 4 from rfl, pk_mul, nI_add]
theorem m_owes (n s : Nat) (st : St) (m : Nat → Nat) (hn : 10 ≤ n) (hs : s < 8) (hm : ∀ c, c < 8 → st.2 142 (8 * s + c) = lN (m c)) : fX11_owes n (nI s) st = some (lN (sumN m 8), st) := by
  have loop : ∀ (k i : Nat), i ≤ 8 → 8 - i < k → fX11_owes_L5 n k (nI s) (lN (sumN m i)) (nI i) st = some (lN (sumN m 8), st) := by
    intro k
    induction k with
    | zero => intro i _ h; omega
    | succ k ih =>
      intro i hi hk
      simp only [fX11_owes_L5, fX11_owes_s5]
      by_cases h : i = 8
      · subst h
        rw [if_pos (show (8 : Int32) ≤ nI 8 by decide)]; rfl
      · rw [if_neg (show ¬ (8 : Int32) ≤ nI i from nI_ge (b := 8) (by omega) (by decide))]
        simp only [fX11_owes_s12]
        rw [i8mul, inb_nI (show 8 * s + i < 64 by omega) (by decide), if_pos rfl, nI_clamp (by omega), hm i (by omega), lN_add, nI_1]
        exact ih (i + 1) (by omega) (by omega)
  simp only [fX11_owes, fX11_owes_s0]
  exact loop n 0 (by omega) (by omega)
theorem m_onWay (n s : Nat) (st : St) (m : Nat → Nat) (hn : 10 ≤ n) (hs : s < 8) (hm : ∀ i, i < 6 → st.2 143 (7 * s + i + 1) = lN (m i)) : fX11_onWay n (nI s) st = some (lN (sumN m 6), st) := by
  have loop : ∀ (k i : Nat), i ≤ 6 → 6 - i < k → fX11_onWay_L5 n k (nI s) (lN (sumN m i)) (nI (i + 1)) st = some (lN (sumN m 6), st) := by
    intro k
    induction k with
    | zero => intro i _ h; omega
    | succ k ih =>
      intro i hi hk
      simp only [fX11_onWay_L5, fX11_onWay_s5]
      by_cases h : i = 6
      · subst h
        rw [if_pos (show (6 : Int32) < nI (6 + 1) by decide)]; rfl
      · rw [if_neg (show ¬ (6 : Int32) < nI (i + 1) from nI_nlt (b := i + 1) (a := 6) (by omega) (by decide))]
        simp only [fX11_onWay_s12]
        rw [i7mul, inb_nI (show 7 * s + (i + 1) < 56 by omega) (by decide), if_pos rfl, nI_clamp (by omega), ← Nat.add_assoc, hm i (by omega), lN_add, nI_1]
        exact ih (i + 1) (by omega) (by omega)
  simp only [fX11_onWay, fX11_onWay_s0]
  exact loop n 0 (by omega) (by omega)
theorem m_given (n s : Nat) (st : St) (m : Nat → Nat) (a : Nat → Int64) (ha : ∀ i, a (i + 1) = a i + lN (m i)) (hs : s < 8) (hm : ∀ d, d < 4 → st.2 144 (4 * s + d) = lN (m d)) : ∀ (k i : Nat), i ≤ 4 → 4 - i < k → fX11_position_L50 n k (nI s) (a i) (nI i) st = some (a 4, st) := by
  intro k
  induction k with
  | zero => intro i _ h; omega
  | succ k ih =>
    intro i hi hk
    simp only [fX11_position_L50, fX11_position_s50]
    by_cases h : i = 4
    · subst h
      rw [if_pos (show (4 : Int32) ≤ nI 4 by decide)]; rfl
    · rw [if_neg (show ¬ (4 : Int32) ≤ nI i from nI_ge (b := 4) (by omega) (by decide))]
      simp only [fX11_position_s56]
      rw [i4mul, inb_nI (show 4 * s + i < 32 by omega) (by decide), if_pos rfl, nI_clamp (by omega), hm i (by omega), ← ha i, nI_1]
      exact ih (i + 1) (by omega) (by omega)
/-- a sum of the matrix's row is what is owed in all -/
theorem owes_row {N : Nat} {sp : Nat → Int32} {od osh : Nat → Nat} {s : Nat} (hs : s < 8) (hself : ∀ c, c < N → c ≠ 0 → sp c = nI s → c ≠ s) : sumN (fun c => if c = s then osh s else if c < N ∧ c ≠ 0 ∧ sp c = nI s then od c else 0) 8 = owesN N sp od osh s := by
  unfold owesN
  rw [Nat.add_comm]
  refine sumN_set (f := fun c => if c < N ∧ c ≠ 0 ∧ sp c = nI s then od c else 0) (j := s) (d := osh s) ?_ (fun i hi => by rw [if_neg hi]) 8 hs
  rw [if_pos rfl, if_neg (fun h => hself s h.1 h.2.1 h.2.2 rfl), Nat.zero_add]
