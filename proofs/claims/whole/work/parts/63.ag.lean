def Ag (rI : List Nat) (fI : List (Nat × Nat)) (rJ : List Nat) (fJ : List (Nat × Nat)) (st st' : St) : Prop := ((∀ o, o ∈ rI → st'.1 o = st.1 o) ∧ ∀ p, p ∈ fI → st'.1 p.1 p.2 = st.1 p.1 p.2) ∧ ((∀ o, o ∈ rJ → st'.2 o = st.2 o) ∧ ∀ p, p ∈ fJ → st'.2 p.1 p.2 = st.2 p.1 p.2)
theorem Ag.of {rI : List Nat} {fI : List (Nat × Nat)} {rJ : List Nat} {fJ : List (Nat × Nat)} {LI LJ : List (Nat × Option Nat)} {st st' : St} (h : Same LI LJ st st') (hI : okL rI fI LI = true) (hJ : okL rJ fJ LJ = true) : Ag rI fI rJ fJ st st' :=
  ⟨⟨fun o ho => funext fun k => h.1 o k (okL_row hI ho), fun p hp => h.1 p.1 p.2 (okL_fld hI hp)⟩, ⟨fun o ho => funext fun k => h.2 o k (okL_row hJ ho), fun p hp => h.2 p.1 p.2 (okL_fld hJ hp)⟩⟩
theorem same_2I {LI LJ : List (Nat × Option Nat)} {st : St} {o k o' k' : Nat} {v v' : Int32} (h : wOK LI o k) (h' : wOK LI o' k') : Same LI LJ st (setI (setI st o k v) o' k' v') := (same_I h).trans (same_I h')
theorem PlanI_ag {st st' : St} {N R : Nat} (h : Ag [2, 3, 4, 5, 6, 7, 8, 9, 10, 131, 132, 133, 134, 135, 136, 137, 138, 139] [(1, 9), (1, 10), (1, 11), (130, 0), (130, 10)] [] [(1, 12), (130, 11)] st st') (hc : PlanI st N R) : PlanI st' N R := by
  obtain ⟨⟨r, f⟩, ⟨rJ, fJ⟩⟩ := h
  unfold PlanI at hc ⊢
  simp only [r 2 (by decide), r 3 (by decide), r 4 (by decide), r 5 (by decide), r 6 (by decide), r 7 (by decide), r 8 (by decide), r 9 (by decide), r 10 (by decide), r 131 (by decide), r 132 (by decide), r 133 (by decide), r 134 (by decide), r 135 (by decide), r 136 (by decide), r 137 (by decide), r 138 (by decide), r 139 (by decide), (show st'.1 1 9 = st.1 1 9 from f (1, 9) (by decide)), (show st'.1 1 10 = st.1 1 10 from f (1, 10) (by decide)), (show st'.1 1 11 = st.1 1 11 from f (1, 11) (by decide)), (show st'.1 130 0 = st.1 130 0 from f (130, 0) (by decide)), (show st'.1 130 10 = st.1 130 10 from f (130, 10) (by decide)), (show st'.2 1 12 = st.2 1 12 from fJ (1, 12) (by decide)), (show st'.2 130 11 = st.2 130 11 from fJ (130, 11) (by decide))]
  exact hc
theorem PlanI_same {st st' : St} {N R : Nat} {LI LJ : List (Nat × Option Nat)} (h : Same LI LJ st st') (hI : okL [2, 3, 4, 5, 6, 7, 8, 9, 10, 131, 132, 133, 134, 135, 136, 137, 138, 139] [(1, 9), (1, 10), (1, 11), (130, 0), (130, 10)] LI = true) (hJ : okL [] [(1, 12), (130, 11)] LJ = true) (hc : PlanI st N R) : PlanI st' N R := PlanI_ag (Ag.of h hI hJ) hc
theorem RulesI_ag {st st' : St} {R : Nat} (h : Ag [12, 13, 153, 154] [(11, 3), (130, 28)] [] [] st st') (hc : RulesI st R) : RulesI st' R := by
  obtain ⟨⟨r, f⟩, ⟨rJ, fJ⟩⟩ := h
  unfold RulesI at hc ⊢
  simp only [r 12 (by decide), r 13 (by decide), r 153 (by decide), r 154 (by decide), (show st'.1 11 3 = st.1 11 3 from f (11, 3) (by decide)), (show st'.1 130 28 = st.1 130 28 from f (130, 28) (by decide))]
  exact hc
theorem RulesI_same {st st' : St} {R : Nat} {LI LJ : List (Nat × Option Nat)} (h : Same LI LJ st st') (hI : okL [12, 13, 153, 154] [(11, 3), (130, 28)] LI = true) (hJ : okL [] [] LJ = true) (hc : RulesI st R) : RulesI st' R := RulesI_ag (Ag.of h hI hJ) hc
theorem TapeI_ag {st st' : St}  (h : Ag [16, 155] [(15, 2), (130, 32)] [] [] st st') (hc : TapeI st ) : TapeI st'  := by
  obtain ⟨⟨r, f⟩, ⟨rJ, fJ⟩⟩ := h
  unfold TapeI at hc ⊢
  simp only [r 16 (by decide), r 155 (by decide), (show st'.1 15 2 = st.1 15 2 from f (15, 2) (by decide)), (show st'.1 130 32 = st.1 130 32 from f (130, 32) (by decide))]
  exact hc
theorem TapeI_same {st st' : St}  {LI LJ : List (Nat × Option Nat)} (h : Same LI LJ st st') (hI : okL [16, 155] [(15, 2), (130, 32)] LI = true) (hJ : okL [] [] LJ = true) (hc : TapeI st ) : TapeI st'  := TapeI_ag (Ag.of h hI hJ) hc
theorem FlowI_ag {st st' : St} {N : Nat} (h : Ag [2, 3, 5, 22, 23, 54, 55, 56, 57, 58, 59, 60, 61, 62] [(53, 10), (130, 12)] [63, 141, 142, 143, 144, 145, 146, 147, 148, 149, 150] [(53, 11), (53, 12), (130, 13), (130, 14)] st st') (hc : FlowI st N) : FlowI st' N := by
  obtain ⟨⟨r, f⟩, ⟨rJ, fJ⟩⟩ := h
  unfold FlowI at hc ⊢
  unfold FlowN PastN at hc ⊢
  simp only [Nat.reduceAdd] at hc ⊢
  simp only [r 2 (by decide), r 3 (by decide), r 5 (by decide), r 22 (by decide), r 23 (by decide), r 54 (by decide), r 55 (by decide), r 56 (by decide), r 57 (by decide), r 58 (by decide), r 59 (by decide), r 60 (by decide), r 61 (by decide), r 62 (by decide), rJ 63 (by decide), rJ 141 (by decide), rJ 142 (by decide), rJ 143 (by decide), rJ 144 (by decide), rJ 145 (by decide), rJ 146 (by decide), rJ 147 (by decide), rJ 148 (by decide), rJ 149 (by decide), rJ 150 (by decide), (show st'.1 53 10 = st.1 53 10 from f (53, 10) (by decide)), (show st'.1 130 12 = st.1 130 12 from f (130, 12) (by decide)), (show st'.2 53 11 = st.2 53 11 from fJ (53, 11) (by decide)), (show st'.2 53 12 = st.2 53 12 from fJ (53, 12) (by decide)), (show st'.2 130 13 = st.2 130 13 from fJ (130, 13) (by decide)), (show st'.2 130 14 = st.2 130 14 from fJ (130, 14) (by decide))]
  exact hc
theorem FlowI_same {st st' : St} {N : Nat} {LI LJ : List (Nat × Option Nat)} (h : Same LI LJ st st') (hI : okL [2, 3, 5, 22, 23, 54, 55, 56, 57, 58, 59, 60, 61, 62] [(53, 10), (130, 12)] LI = true) (hJ : okL [63, 141, 142, 143, 144, 145, 146, 147, 148, 149, 150] [(53, 11), (53, 12), (130, 13), (130, 14)] LJ = true) (hc : FlowI st N) : FlowI st' N := FlowI_ag (Ag.of h hI hJ) hc
theorem ToldI_ag {st st' : St} {N : Nat} (h : Ag [50, 51, 140] [] [] [] st st') (hc : ToldI st N) : ToldI st' N := by
  obtain ⟨⟨r, f⟩, ⟨rJ, fJ⟩⟩ := h
  unfold ToldI at hc ⊢
  simp only [r 50 (by decide), r 51 (by decide), r 140 (by decide)]
  exact hc
theorem ToldI_same {st st' : St} {N : Nat} {LI LJ : List (Nat × Option Nat)} (h : Same LI LJ st st') (hI : okL [50, 51, 140] [] LI = true) (hJ : okL [] [] LJ = true) (hc : ToldI st N) : ToldI st' N := ToldI_ag (Ag.of h hI hJ) hc
theorem LineI_ag {st st' : St}  (h : Ag [] [(25, 2), (26, 2), (27, 2), (28, 2), (130, 44)] [] [(25, 0), (25, 1), (26, 0), (26, 1), (27, 0), (27, 1), (28, 0), (28, 1), (130, 40), (130, 41), (130, 42), (130, 43), (161, 0), (162, 0)] st st') (hc : LineI st ) : LineI st'  := by
  obtain ⟨⟨r, f⟩, ⟨rJ, fJ⟩⟩ := h
  unfold LineI at hc ⊢
  simp only [(show st'.1 25 2 = st.1 25 2 from f (25, 2) (by decide)), (show st'.1 26 2 = st.1 26 2 from f (26, 2) (by decide)), (show st'.1 27 2 = st.1 27 2 from f (27, 2) (by decide)), (show st'.1 28 2 = st.1 28 2 from f (28, 2) (by decide)), (show st'.1 130 44 = st.1 130 44 from f (130, 44) (by decide)), (show st'.2 25 0 = st.2 25 0 from fJ (25, 0) (by decide)), (show st'.2 25 1 = st.2 25 1 from fJ (25, 1) (by decide)), (show st'.2 26 0 = st.2 26 0 from fJ (26, 0) (by decide)), (show st'.2 26 1 = st.2 26 1 from fJ (26, 1) (by decide)), (show st'.2 27 0 = st.2 27 0 from fJ (27, 0) (by decide)), (show st'.2 27 1 = st.2 27 1 from fJ (27, 1) (by decide)), (show st'.2 28 0 = st.2 28 0 from fJ (28, 0) (by decide)), (show st'.2 28 1 = st.2 28 1 from fJ (28, 1) (by decide)), (show st'.2 130 40 = st.2 130 40 from fJ (130, 40) (by decide)), (show st'.2 130 41 = st.2 130 41 from fJ (130, 41) (by decide)), (show st'.2 130 42 = st.2 130 42 from fJ (130, 42) (by decide)), (show st'.2 130 43 = st.2 130 43 from fJ (130, 43) (by decide)), (show st'.2 161 0 = st.2 161 0 from fJ (161, 0) (by decide)), (show st'.2 162 0 = st.2 162 0 from fJ (162, 0) (by decide))]
  exact hc
theorem LineI_same {st st' : St}  {LI LJ : List (Nat × Option Nat)} (h : Same LI LJ st st') (hI : okL [] [(25, 2), (26, 2), (27, 2), (28, 2), (130, 44)] LI = true) (hJ : okL [] [(25, 0), (25, 1), (26, 0), (26, 1), (27, 0), (27, 1), (28, 0), (28, 1), (130, 40), (130, 41), (130, 42), (130, 43), (161, 0), (162, 0)] LJ = true) (hc : LineI st ) : LineI st'  := LineI_ag (Ag.of h hI hJ) hc
theorem LevI_ag {st st' : St}  (h : Ag [38, 165] [] [] [] st st') (hc : LevI st ) : LevI st'  := by
  obtain ⟨⟨r, f⟩, ⟨rJ, fJ⟩⟩ := h
  unfold LevI at hc ⊢
  simp only [r 38 (by decide), r 165 (by decide)]
  exact hc
theorem LevI_same {st st' : St}  {LI LJ : List (Nat × Option Nat)} (h : Same LI LJ st st') (hI : okL [38, 165] [] LI = true) (hJ : okL [] [] LJ = true) (hc : LevI st ) : LevI st'  := LevI_ag (Ag.of h hI hJ) hc
theorem WorstI_ag {st st' : St}  (h : Ag [52, 176] [(0, 15), (130, 75)] [] [] st st') (hc : WorstI st ) : WorstI st'  := by
  obtain ⟨⟨r, f⟩, ⟨rJ, fJ⟩⟩ := h
  unfold WorstI at hc ⊢
  simp only [r 52 (by decide), r 176 (by decide), (show st'.1 0 15 = st.1 0 15 from f (0, 15) (by decide)), (show st'.1 130 75 = st.1 130 75 from f (130, 75) (by decide))]
  exact hc
theorem WorstI_same {st st' : St}  {LI LJ : List (Nat × Option Nat)} (h : Same LI LJ st st') (hI : okL [52, 176] [(0, 15), (130, 75)] LI = true) (hJ : okL [] [] LJ = true) (hc : WorstI st ) : WorstI st'  := WorstI_ag (Ag.of h hI hJ) hc
theorem LetI_ag {st st' : St}  (h : Ag [156] [] [] [] st st') (hc : LetI st ) : LetI st'  := by
  obtain ⟨⟨r, f⟩, ⟨rJ, fJ⟩⟩ := h
  unfold LetI at hc ⊢
  simp only [r 156 (by decide)]
  exact hc
theorem LetI_same {st st' : St}  {LI LJ : List (Nat × Option Nat)} (h : Same LI LJ st st') (hI : okL [156] [] LI = true) (hJ : okL [] [] LJ = true) (hc : LetI st ) : LetI st'  := LetI_ag (Ag.of h hI hJ) hc
