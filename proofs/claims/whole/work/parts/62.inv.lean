/-! ===== the invariant between the two systems ===== -/
def cnt3 (f : Nat → Int32) : Nat → Nat
  | 0 => 0
  | k + 1 => cnt3 f k + (if f k = 3 then 1 else 0)
def sumN (f : Nat → Nat) : Nat → Nat
  | 0 => 0
  | k + 1 => sumN f k + f k
/-- a stage as it was told -/
def StageI (kd sp wy dl lt cp hd lk rl : Nat → Int32) (R s : Nat) : Prop :=
  (s = 0 → kd s = 0 ∧ sp s = -1) ∧ (s ≠ 0 → (∃ k, 1 ≤ k ∧ k ≤ 3 ∧ kd s = nI k) ∧ ∃ p, p < s ∧ sp s = nI p ∧ kd p ≠ 3) ∧ (∃ y, 1 ≤ y ∧ y ≤ 6 ∧ wy s = nI y) ∧ (∃ d, d ≤ 3 ∧ dl s = nI d) ∧ (∃ v, 1 ≤ v ∧ v ≤ 50 ∧ lt s = nI v) ∧ (∃ v, 1 ≤ v ∧ v ≤ 9999 ∧ cp s = nI v) ∧ (∃ v, v ≤ 99 ∧ hd s = nI v) ∧ (∃ v, v ≤ 99 ∧ lk s = nI v) ∧ (rl s = -1 ∨ ∃ r, r < R ∧ rl s = nI r)
def PlanI (st : St) (N R : Nat) : Prop :=
  N ≤ 8 ∧ st.1 1 9 = nI N ∧ st.1 130 0 = nI N ∧ (st.1 131 = st.1 2 ∧ st.1 132 = st.1 3 ∧ st.1 133 = st.1 4 ∧ st.1 134 = st.1 5 ∧ st.1 135 = st.1 6 ∧ st.1 136 = st.1 7 ∧ st.1 137 = st.1 8 ∧ st.1 138 = st.1 9 ∧ st.1 139 = st.1 10) ∧ (∃ h, h ≤ 2 ∧ st.1 1 11 = nI h ∧ st.1 130 10 = nI h) ∧ (∃ f, f ≤ 9999 * N ∧ st.2 1 12 = lN f ∧ st.2 130 11 = lN f) ∧ st.1 1 10 = nI (cnt3 (st.1 2) N) ∧ ∀ s, s < N → StageI (st.1 2) (st.1 3) (st.1 4) (st.1 5) (st.1 6) (st.1 7) (st.1 8) (st.1 9) (st.1 10) R s
/-- a step of a rule, as the class has it and as the reference has it -/
def stepR (c m : Int32) : Prop := (∃ v, v ≤ 9999 ∧ c = nI v ∧ m = nI v) ∨ (∃ f, f ≤ 6 ∧ c = -1 - nI f ∧ m = nI (10000 + f)) ∨ (c = -8 ∧ m = nI (20000 + 43)) ∨ (c = -9 ∧ m = nI (20000 + 45)) ∨ (c = -10 ∧ m = nI (20000 + 42)) ∨ (c = -11 ∧ m = nI (20000 + 47)) ∨ (c = -12 ∧ m = nI (20000 + 77)) ∨ (c = -13 ∧ m = nI (20000 + 88))
/-- how many values stand behind a row of steps, if there are always two where two are wanted and never more than 32 -/
def deepOf (f : Nat → Int32) : Nat → Option Nat
  | 0 => some 0
  | k + 1 => match deepOf f k with
    | none => none
    | some d => if -8 < f k then (if d < 32 then some (d + 1) else none) else (if 2 ≤ d then some (d - 1) else none)
def RuleI (stp cod : Nat → Int32) (r len : Nat) : Prop := 1 ≤ len ∧ len ≤ 120 ∧ (∀ j, j < len → stepR (stp (120 * r + j)) (cod (120 * r + j))) ∧ deepOf (fun j => stp (120 * r + j)) len = some 1
def RulesI (st : St) (R : Nat) : Prop := R ≤ 12 ∧ st.1 11 3 = nI R ∧ st.1 130 28 = nI R ∧ ∀ r, r < R → ∃ len, st.1 13 r = nI len ∧ st.1 153 r = nI len ∧ RuleI (st.1 12) (st.1 154) r len
def TapeI (st : St) : Prop := ∃ T, T ≤ 120 ∧ st.1 15 2 = nI T ∧ st.1 130 32 = nI T ∧ ∀ j, j < T → st.1 155 j = st.1 16 j ∧ ∃ v, v ≤ 255 ∧ st.1 16 j = nI v
/-- orders that were given and aren't known yet, by how many weeks are left -/
def pend (orH : Nat → Nat → Nat) (w dly c d : Nat) : Nat := if d ≤ dly ∧ dly + 1 ≤ w + d then orH (w + d - (dly + 1)) c else 0
/-- the goods, orders and costs at one time, over numbers: the class's flow at cell b, and the reference's own rows -/
def FlowN (st : St) (b N w : Nat) (kd sp dl : Nat → Int32) (fs md sd : Nat) (stk : Nat → Nat) (slt : Nat → Nat → Nat) (od osh snt : Nat → Nat) (orH snH : Nat → Nat → Nat) : Prop :=
  (st.1 b 10 = nI w ∧ st.1 130 12 = nI w ∧ st.2 b 11 = lN md ∧ st.2 130 13 = lN md ∧ st.2 b 12 = lN sd ∧ st.2 130 14 = lN sd) ∧
  (∀ s, s < 8 → st.1 (b + 1) s = nI (stk s) ∧ st.2 141 s = lN (stk s)) ∧
  (∀ s i, s < 8 → i < 6 → st.1 (b + 2) (6 * s + i) = nI (slt s i) ∧ st.2 143 (7 * s + i + 1) = lN (slt s i)) ∧
  (∀ s, s < 8 → st.1 (b + 3) s = nI (sumN (slt s) 6)) ∧
  (∀ s, s < 8 → st.1 (b + 4) s = nI (osh s + sumN (fun c => if c < N ∧ c ≠ 0 ∧ sp c = nI s then od c else 0) 8)) ∧
  (∀ c, c < 8 → st.1 (b + 5) c = nI (od c)) ∧
  (∀ s c, s < 8 → c < 8 → st.2 142 (8 * s + c) = lN (if c = s then osh s else if c < N ∧ c ≠ 0 ∧ sp c = nI s then od c else 0)) ∧
  (∀ c, c < 8 → st.1 (b + 6) c = nI (if c = 0 then 0 else od c + sumN (pend orH w (dl c).toNatClampNeg c) 4)) ∧
  (∀ c d, c < 8 → d < 4 → st.2 144 (4 * c + d) = lN (if c = 0 then 0 else pend orH w (dl c).toNatClampNeg c d)) ∧
  (∀ s, s < 8 → st.1 (b + 7) s = nI (snt s) ∧ st.2 146 s = lN (snt s)) ∧
  (∀ s u, s < 8 → u < w → w ≤ u + 4 → st.1 (b + 8) (4 * s + u % 4) = nI (snH u s) ∧ st.1 (b + 9) (4 * s + u % 4) = nI (orH u s)) ∧
  (∀ s, s < 8 → st.2 147 s = lN (if w = 0 then 0 else snH (w - 1) s) ∧ st.2 148 s = lN (if w = 0 then 0 else orH (w - 1) s)) ∧
  (∀ s, s < 8 → st.2 (b + 10) s = st.2 145 s) ∧
  (∀ s, N ≤ s → s < 8 → stk s = 0 ∧ (∀ i, slt s i = 0) ∧ od s = 0 ∧ osh s = 0 ∧ snt s = 0 ∧ st.2 145 s = 0 ∧ ∀ u, orH u s = 0 ∧ snH u s = 0) ∧
  (∀ s, s < 8 → kd s ≠ 3 → osh s = 0) ∧ od 0 = 0 ∧
  (sumN (fun s => stk s + sumN (slt s) 6) 8 + sd = fs + md ∧ md ≤ 9999 * w ∧ (∀ u s, orH u s ≤ 9999) ∧ (∀ c, od c ≤ 9999 * w) ∧ (∀ s, osh s ≤ 999 * w) ∧ (∀ u s, snH u s ≤ 79992) ∧ ∀ s, snt s ≤ 4200000 * w)
/-- the rows of the last 40 weeks -/
def PastN (st : St) (w : Nat) (orH snH : Nat → Nat → Nat) : Prop := ∀ s u, s < 8 → u < w → w ≤ u + 40 → st.1 22 (40 * s + u % 40) = nI (snH u s) ∧ st.1 23 (40 * s + u % 40) = nI (orH u s) ∧ st.2 149 (40 * s + u % 40) = lN (snH u s) ∧ st.2 150 (40 * s + u % 40) = lN (orH u s)
def FlowI (st : St) (N : Nat) : Prop := ∃ (w fs md sd : Nat) (stk : Nat → Nat) (slt : Nat → Nat → Nat) (od osh snt : Nat → Nat) (orH snH : Nat → Nat → Nat), w ≤ 400 ∧ fs ≤ 9999 * N ∧ (N = 0 → w = 0) ∧ FlowN st 53 N w (st.1 2) (st.1 3) (st.1 5) fs md sd stk slt od osh snt orH snH ∧ PastN st w orH snH
def ToldI (st : St) (N : Nat) : Prop := (∀ s, s < 8 → st.1 140 s = st.1 50 s ∧ (∃ d, d ≤ 999 ∧ st.1 50 s = nI d) ∧ (N ≤ s → st.1 50 s = 0)) ∧ ∀ s, s < 8 → st.1 51 s = 0
/-- t, a, m and one of the straight rule -/
def LineI (st : St) : Prop := ∃ a b c d e : Nat, (b ≤ 20 ∧ 1 ≤ b ∧ a ≤ 2 * b ∧ Nat.gcd a b = 1) ∧ (d ≤ 20 ∧ 1 ≤ d ∧ c ≤ 2 * d ∧ Nat.gcd c d = 1) ∧ (1 ≤ e ∧ e ≤ 8) ∧ (st.2 25 0 = lN a ∧ st.2 25 1 = lN b ∧ st.1 25 2 = 0 ∧ st.2 130 40 = lN a ∧ st.2 130 41 = lN b) ∧ (st.2 26 0 = lN c ∧ st.2 26 1 = lN d ∧ st.1 26 2 = 0 ∧ st.2 130 42 = lN c ∧ st.2 130 43 = lN d) ∧ (st.2 27 0 = lN e ∧ st.2 27 1 = 1 ∧ st.1 27 2 = 0 ∧ st.1 130 44 = nI e) ∧ (st.2 28 0 = 1 ∧ st.2 28 1 = 1 ∧ st.1 28 2 = 0) ∧ st.2 161 0 = 1 ∧ st.2 162 0 = 1
def LevI (st : St) : Prop := ∀ d, d < 5 → st.1 165 d = st.1 38 d ∧ ∃ v, v ≤ 9 ∧ st.1 38 d = nI v
def WorstI (st : St) : Prop := ∃ k, k ≤ 6 ∧ st.1 0 15 = nI k ∧ st.1 130 75 = nI k ∧ ∀ i, i < k → st.1 176 i = st.1 52 i
def letters : List Int32 := [115, 116, 111, 99, 107, 0, 111, 119, 101, 100, 0, 0, 119, 97, 121, 0, 0, 0, 115, 101, 101, 110, 0, 0, 109, 101, 97, 110, 0, 0, 119, 101, 101, 107, 0, 0, 112, 108, 97, 99, 101, 0, 109, 105, 110, 0, 0, 0, 109, 97, 120, 0, 0, 0]
def LetI (st : St) : Prop := ∀ i, i < 54 → st.1 156 i = letters.getD i 0
def Inv (st : St) : Prop := ∃ N R, PlanI st N R ∧ RulesI st R ∧ TapeI st ∧ FlowI st N ∧ ToldI st N ∧ LineI st ∧ LevI st ∧ WorstI st ∧ LetI st
/-- the places that the invariant speaks of -/
def rowsI : List Nat := [2, 3, 4, 5, 6, 7, 8, 9, 10, 12, 13, 16, 22, 23, 38, 50, 51, 52, 54, 55, 56, 57, 58, 59, 60, 61, 62, 131, 132, 133, 134, 135, 136, 137, 138, 139, 140, 153, 154, 155, 156, 165, 176]
def fldsI : List (Nat × Nat) := [(0, 15), (1, 9), (1, 10), (1, 11), (11, 3), (15, 2), (25, 2), (26, 2), (27, 2), (28, 2), (53, 10), (130, 0), (130, 10), (130, 12), (130, 28), (130, 32), (130, 44), (130, 75)]
def rowsJ : List Nat := [63, 141, 142, 143, 144, 145, 146, 147, 148, 149, 150]
def fldsJ : List (Nat × Nat) := [(1, 12), (25, 0), (25, 1), (26, 0), (26, 1), (27, 0), (27, 1), (28, 0), (28, 1), (53, 11), (53, 12), (130, 11), (130, 13), (130, 14), (130, 40), (130, 41), (130, 42), (130, 43), (161, 0), (162, 0)]
def Ess (st st' : St) : Prop := ((∀ o, o ∈ rowsI → st'.1 o = st.1 o) ∧ ∀ p, p ∈ fldsI → st'.1 p.1 p.2 = st.1 p.1 p.2) ∧ ((∀ o, o ∈ rowsJ → st'.2 o = st.2 o) ∧ ∀ p, p ∈ fldsJ → st'.2 p.1 p.2 = st.2 p.1 p.2)
theorem Ess.trans {a b c : St} (h1 : Ess a b) (h2 : Ess b c) : Ess a c := ⟨⟨fun o h => (h2.1.1 o h).trans (h1.1.1 o h), fun p h => (h2.1.2 p h).trans (h1.1.2 p h)⟩, ⟨fun o h => (h2.2.1 o h).trans (h1.2.1 o h), fun p h => (h2.2.2 p h).trans (h1.2.2 p h)⟩⟩
def okL (rows : List Nat) (flds : List (Nat × Nat)) (L : List (Nat × Option Nat)) : Bool := L.all (fun p => !rows.contains p.1 && (match p.2 with | none => flds.all (fun q => q.1 != p.1) | some k => !flds.contains (p.1, k)))
theorem okL_row {rows : List Nat} {flds : List (Nat × Nat)} {L : List (Nat × Option Nat)} (h : okL rows flds L = true) {o k : Nat} (ho : o ∈ rows) : ¬ wOK L o k := by
  unfold okL at h
  rw [List.all_eq_true] at h
  intro w
  have key : ∀ x : Option Nat, (o, x) ∈ L → False := by
    intro x hx
    have := h _ hx
    simp only [Bool.and_eq_true, Bool.not_eq_true', List.contains_eq_mem, decide_eq_false_iff_not] at this
    exact this.1 ho
  exact w.elim (key _) (key _)
theorem okL_fld {rows : List Nat} {flds : List (Nat × Nat)} {L : List (Nat × Option Nat)} (h : okL rows flds L = true) {p : Nat × Nat} (hp : p ∈ flds) : ¬ wOK L p.1 p.2 := by
  unfold okL at h
  rw [List.all_eq_true] at h
  intro w
  rcases w with w | w
  · have := h _ w
    simp only [Bool.and_eq_true] at this
    have h2 := List.all_eq_true.mp this.2 p hp
    simp at h2
  · have := h _ w
    simp only [Bool.and_eq_true, Bool.not_eq_true', List.contains_eq_mem, decide_eq_false_iff_not] at this
    exact this.2 hp
theorem Ess.of {LI LJ : List (Nat × Option Nat)} {st st' : St} (h : Same LI LJ st st') (hI : okL rowsI fldsI LI = true) (hJ : okL rowsJ fldsJ LJ = true) : Ess st st' :=
  ⟨⟨fun o ho => funext fun k => h.1 o k (okL_row hI ho), fun p hp => h.1 p.1 p.2 (okL_fld hI hp)⟩, ⟨fun o ho => funext fun k => h.2 o k (okL_row hJ ho), fun p hp => h.2 p.1 p.2 (okL_fld hJ hp)⟩⟩
theorem Inv.ess {st st' : St} (h : Ess st st') (hI : Inv st) : Inv st' := by
  obtain ⟨⟨r, f⟩, ⟨rJ, fJ⟩⟩ := h
  unfold Inv PlanI RulesI TapeI FlowI FlowN PastN ToldI LineI LevI WorstI LetI at hI ⊢
  simp only [Nat.reduceAdd] at hI ⊢
  simp only [r 2 (by decide), r 3 (by decide), r 4 (by decide), r 5 (by decide), r 6 (by decide), r 7 (by decide), r 8 (by decide), r 9 (by decide), r 10 (by decide), r 12 (by decide), r 13 (by decide), r 16 (by decide), r 22 (by decide), r 23 (by decide), r 38 (by decide), r 50 (by decide), r 51 (by decide), r 52 (by decide), r 54 (by decide), r 55 (by decide), r 56 (by decide), r 57 (by decide), r 58 (by decide), r 59 (by decide), r 60 (by decide), r 61 (by decide), r 62 (by decide), r 131 (by decide), r 132 (by decide), r 133 (by decide), r 134 (by decide), r 135 (by decide), r 136 (by decide), r 137 (by decide), r 138 (by decide), r 139 (by decide), r 140 (by decide), r 153 (by decide), r 154 (by decide), r 155 (by decide), r 156 (by decide), r 165 (by decide), r 176 (by decide), rJ 63 (by decide), rJ 141 (by decide), rJ 142 (by decide), rJ 143 (by decide), rJ 144 (by decide), rJ 145 (by decide), rJ 146 (by decide), rJ 147 (by decide), rJ 148 (by decide), rJ 149 (by decide), rJ 150 (by decide), (show st'.1 0 15 = st.1 0 15 from f (0, 15) (by decide)), (show st'.1 1 9 = st.1 1 9 from f (1, 9) (by decide)), (show st'.1 1 10 = st.1 1 10 from f (1, 10) (by decide)), (show st'.1 1 11 = st.1 1 11 from f (1, 11) (by decide)), (show st'.1 11 3 = st.1 11 3 from f (11, 3) (by decide)), (show st'.1 15 2 = st.1 15 2 from f (15, 2) (by decide)), (show st'.1 25 2 = st.1 25 2 from f (25, 2) (by decide)), (show st'.1 26 2 = st.1 26 2 from f (26, 2) (by decide)), (show st'.1 27 2 = st.1 27 2 from f (27, 2) (by decide)), (show st'.1 28 2 = st.1 28 2 from f (28, 2) (by decide)), (show st'.1 53 10 = st.1 53 10 from f (53, 10) (by decide)), (show st'.1 130 0 = st.1 130 0 from f (130, 0) (by decide)), (show st'.1 130 10 = st.1 130 10 from f (130, 10) (by decide)), (show st'.1 130 12 = st.1 130 12 from f (130, 12) (by decide)), (show st'.1 130 28 = st.1 130 28 from f (130, 28) (by decide)), (show st'.1 130 32 = st.1 130 32 from f (130, 32) (by decide)), (show st'.1 130 44 = st.1 130 44 from f (130, 44) (by decide)), (show st'.1 130 75 = st.1 130 75 from f (130, 75) (by decide)), (show st'.2 1 12 = st.2 1 12 from fJ (1, 12) (by decide)), (show st'.2 25 0 = st.2 25 0 from fJ (25, 0) (by decide)), (show st'.2 25 1 = st.2 25 1 from fJ (25, 1) (by decide)), (show st'.2 26 0 = st.2 26 0 from fJ (26, 0) (by decide)), (show st'.2 26 1 = st.2 26 1 from fJ (26, 1) (by decide)), (show st'.2 27 0 = st.2 27 0 from fJ (27, 0) (by decide)), (show st'.2 27 1 = st.2 27 1 from fJ (27, 1) (by decide)), (show st'.2 28 0 = st.2 28 0 from fJ (28, 0) (by decide)), (show st'.2 28 1 = st.2 28 1 from fJ (28, 1) (by decide)), (show st'.2 53 11 = st.2 53 11 from fJ (53, 11) (by decide)), (show st'.2 53 12 = st.2 53 12 from fJ (53, 12) (by decide)), (show st'.2 130 11 = st.2 130 11 from fJ (130, 11) (by decide)), (show st'.2 130 13 = st.2 130 13 from fJ (130, 13) (by decide)), (show st'.2 130 14 = st.2 130 14 from fJ (130, 14) (by decide)), (show st'.2 130 40 = st.2 130 40 from fJ (130, 40) (by decide)), (show st'.2 130 41 = st.2 130 41 from fJ (130, 41) (by decide)), (show st'.2 130 42 = st.2 130 42 from fJ (130, 42) (by decide)), (show st'.2 130 43 = st.2 130 43 from fJ (130, 43) (by decide)), (show st'.2 161 0 = st.2 161 0 from fJ (161, 0) (by decide)), (show st'.2 162 0 = st.2 162 0 from fJ (162, 0) (by decide))]
  exact hI
