/-! ===== allotments: the reference's ===== -/
def kRs (st st1 : St) : Prop := st1.1 = st.1 ∧ ∀ o, o ≠ 152 → st1.2 o = st.2 o
theorem kRs.rf (st : St) : kRs st st := ⟨rfl, fun _ _ => rfl⟩
theorem kRs.tr {x y z : St} (h : kRs x y) (k : kRs y z) : kRs x z := ⟨k.1.trans h.1, fun o ho => (k.2 o ho).trans (h.2 o ho)⟩
theorem kRs.pt (st : St) (i : Nat) (v : Int64) : kRs st (setJ st 152 i v) := ⟨rfl, fun _ ho => sJ_o ho⟩
def ClM (st : St) (m : Nat) (c : Nat → Nat) : Prop := ∀ i, i < m → st.2 151 i = lN (c i)
theorem ClM.k {st st1 : St} {m : Nat} {c : Nat → Nat} (h : ClM st m c) (k : kRs st st1) : ClM st1 m c := fun i hi => by rw [k.2 151 (by decide)]; exact h i hi
def GtM (st : St) (m : Nat) (g : Nat → Nat) : Prop := ∀ i, i < m → st.2 152 i = lN (g i)
theorem l_le0 {a : Nat} (ha : a < 2 ^ 63) : lN a ≤ 0 ↔ a = 0 := by
  rw [show (0 : Int64) = lN 0 from rfl, pk_lLE ha (by decide)]; omega
theorem m_oneL (n m l : Nat) (K155 : Int32 → Int32 → Int64 → Int32 → St → Option (Unit × St)) (v1 : Int32) (hm : m ≤ 8) (hl : l < 2 ^ 30) (g c : Nat → Nat) (hg : ∀ i, i < m → g i < 2 ^ 30) (hc : ∀ i, i < m → c i < 2 ^ 30) : ∀ (j k : Nat) (st : St), k ≤ m → m - k < j → ClM st m c → (∀ i, i < k → st.2 152 i = lN (one g c l i)) → (∀ i, k ≤ i → i < m → st.2 152 i = lN (g i)) → ∃ st1, fX11_shares_L170 n K155 j v1 (nI m) (lN (l - opn g c k)) (nI k) st = fX11_shares_s225 n K155 v1 (nI m) (lN (l - opn g c m)) st1 ∧ kRs st st1 ∧ GtM st1 m (one g c l) := by
  intro j
  induction j with
  | zero => intro k _ _ hj; omega
  | succ j ih =>
    intro k st hk hj hC h1 h2
    simp only [fX11_shares_L170, fX11_shares_s170]
    by_cases q : k = m
    · subst q
      rw [if_pos (nI_le (Nat.le_refl _) (by omega))]
      exact ⟨st, rfl, kRs.rf st, h1⟩
    · rw [if_neg (nI_ge (by omega) (by omega))]
      simp only [fX11_shares_s177]
      by_cases z : l - opn g c k = 0
      · rw [if_pos ((l_le0 (by omega)).mpr z)]
        have hmo := opn_mono (g := g) (c := c) hk
        refine ⟨st, ?_, kRs.rf st, fun i hi => ?_⟩
        · rw [z, show l - opn g c m = 0 by omega]
        by_cases r : i < k
        · exact h1 i r
        · rw [h2 i (by omega) hi, one_out (k := k) (by omega) (by omega)]
      · rw [if_neg (fun w => z ((l_le0 (by omega)).mp w))]
        have hkc := hc k (by omega)
        have hkg := hg k (by omega)
        simp only [fX11_shares_s184, fX11_shares_s219, fX11_shares_s202, fX11_shares_s213, inb_nI (show k < 8 by omega) (by decide), nI_clamp (show k < 2 ^ 31 by omega), if_true, hC k (by omega), h2 k (Nat.le_refl _) (by omega), nI_1, lN_1]
        by_cases r : g k < c k
        · rw [if_neg (fun w => by have := (pk_lLE (by omega) (by omega)).mp w; omega)]
          have e1 : lN (l - opn g c k) - 1 = lN (l - opn g c (k + 1)) := by rw [show (1 : Int64) = lN 1 from rfl, opn_pos r, lN_sub (by omega)]; congr 1
          rw [e1]
          have hp := kRs.pt st k (lN (g k + 1))
          obtain ⟨s1, a1, a2, a3⟩ := ih (k + 1) (setJ st 152 k (lN (g k + 1))) (by omega) (by omega) (hC.k hp) (fun i hi => by
            by_cases e : i = k
            · subst e; rw [sJ_at]; unfold one; rw [if_pos ⟨r, by omega⟩]
            · rw [sJ_k e]; exact h1 i (by omega)) (fun i hi hi2 => by rw [sJ_k (by omega)]; exact h2 i (by omega) hi2)
          exact ⟨s1, a1, hp.tr a2, a3⟩
        · rw [if_pos ((pk_lLE (by omega) (by omega)).mpr (by omega))]
          rw [← opn_neg r]
          exact ih (k + 1) st (by omega) (by omega) hC (fun i hi => by
            by_cases e : i = k
            · subst e; rw [h2 i (Nat.le_refl _) (by omega)]; unfold one; rw [if_neg (fun w => r w.1)]
            · exact h1 i (by omega)) (fun i hi hi2 => h2 i (by omega) hi2)
theorem m_one (n m l : Nat) (hn : 100 ≤ n) (K155 : Int32 → Int32 → Int64 → Int32 → St → Option (Unit × St)) (v1 : Int32) (hm : m ≤ 8) (hl : l < 2 ^ 30) (g c : Nat → Nat) (hg : ∀ i, i < m → g i < 2 ^ 30) (hc : ∀ i, i < m → c i < 2 ^ 30) (st : St) (hC : ClM st m c) (hG : GtM st m g) : ∃ st1, fX11_shares_s167 n K155 v1 (nI m) (lN l) st = fX11_shares_s225 n K155 v1 (nI m) (lN (l - opn g c m)) st1 ∧ kRs st st1 ∧ GtM st1 m (one g c l) := by
  simp only [fX11_shares_s167]
  exact m_oneL n m l K155 v1 hm hl g c hg hc n 0 st (by omega) (by omega) hC (fun i hi => by omega) (fun i _ hi => hG i hi)
theorem m_L155 (n j : Nat) (v1 v4 : Int32) (v7 : Int64) (st : St) : fX11_shares_L155 n (j + 1) v1 v4 v7 1 st = if v7 ≤ 0 then some ((), st) else fX11_shares_s167 n (fX11_shares_L155 n j) v1 v4 v7 st := rfl
theorem m_L155z (n j : Nat) (v1 v4 : Int32) (v7 : Int64) (st : St) : fX11_shares_L155 n (j + 1) v1 v4 v7 0 st = some ((), st) := rfl
/-- the rounds of allotment 2 -/
theorem m_evL (n m s : Nat) (hm : m ≤ 8) (hn : 100 ≤ n) (hs : s < 2 ^ 26) (c : Nat → Nat) (hc : ∀ i, i < m → c i < 2 ^ 26) (ha : s < sumN c m) : ∀ (j : Nat) (t : Nat) (st : St), sumN (cutN c t) m ≤ s → s - sumN (cutN c t) m + 1 < j → ClM st m c → GtM st m (cutN c t) → ∃ st1, fX11_shares_L155 n j (nI 2) (nI m) (lN (s - sumN (cutN c t) m)) 1 st = some ((), st1) ∧ kRs st st1 ∧ GtM st1 m (one (cutN c (levT c m s)) c (s - sumN (cutN c (levT c m s)) m)) := by
  intro j
  induction j with
  | zero => intro t _ _ hj; omega
  | succ j ih =>
    intro t st ht hj hC hG
    have hop : 0 < opn (cutN c t) c m := Nat.pos_of_ne_zero (fun w => by have := cut_full m w; omega)
    have hg30 : ∀ i, i < m → cutN c t i < 2 ^ 30 := fun i hi => by have := cut_le c t i; have := hc i hi; omega
    have hc30 : ∀ i, i < m → c i < 2 ^ 30 := fun i hi => by have := hc i hi; omega
    simp only [fX11_shares_L155, fX11_shares_s155, if_neg (show ¬ (1 : Int32) = 0 by decide), fX11_shares_s160]
    by_cases z : s - sumN (cutN c t) m = 0
    · rw [if_pos ((l_le0 (by omega)).mpr z)]
      have hT : levT c m s = t := levT_eq ⟨ht, by rw [cut_succ]; omega⟩
      refine ⟨st, rfl, kRs.rf st, fun i hi => ?_⟩
      rw [hT, z, one_zero]
      exact hG i hi
    · rw [if_neg (fun w => z ((l_le0 (by omega)).mp w))]
      obtain ⟨s1, a1, a2, a3⟩ := m_one n m (s - sumN (cutN c t) m) hn (fX11_shares_L155 n j) (nI 2) hm (by omega) (cutN c t) c hg30 hc30 st hC hG
      rw [a1]
      simp only [fX11_shares_s225, if_pos (show nI 2 = 2 from rfl), fX11_shares_s230, fX11_shares_s235]
      by_cases q : s - sumN (cutN c t) m < opn (cutN c t) c m
      · have hT : levT c m s = t := levT_eq ⟨ht, by rw [cut_succ]; omega⟩
        refine ⟨s1, ?_, a2, by rw [hT]; exact a3⟩
        cases j with
        | zero => omega
        | succ j =>
          simp only [fX11_shares_L155, fX11_shares_s155, if_neg (show ¬ (1 : Int32) = 0 by decide), fX11_shares_s160]
          rw [if_pos ((l_le0 (by omega)).mpr (by omega))]
          rfl
      · have hsu := cut_succ c t m
        rw [show s - sumN (cutN c t) m - opn (cutN c t) c m = s - sumN (cutN c (t + 1)) m by omega]
        obtain ⟨s2, b1, b2, b3⟩ := ih (t + 1) s1 (by omega) (by omega) (hC.k a2) (fun i hi => by
          rw [a3 i hi, one_all (m := m) (by omega) hi]
          congr 1
          unfold cutN; split <;> split <;> split <;> omega)
        exact ⟨s2, b1, a2.tr b2, b3⟩
theorem m_distL (n m s how : Nat) (hm : m ≤ 8) (hn : 2 ^ 27 ≤ n) (hh : how ≤ 2) (hs : s < 2 ^ 26) (c : Nat → Nat) (hc : ∀ i, i < m → c i < 2 ^ 26) (ha : s < sumN c m) : ∀ (j k : Nat) (st : St), k ≤ m → m - k < j → ClM st m c → (∀ i, i < k → st.2 152 i = lN (if how = 0 then numN s c i else if how = 1 then prtN c m s i else 0)) → ∃ st1, fX11_shares_L59 n j (nI how) (lN s) (nI m) (lN (sumN c m)) (lN (if how = 0 then s - sumN c k else if how = 1 then s - sumN (prtN c m s) k else s)) (nI k) st = some ((), st1) ∧ kRs st st1 ∧ GtM st1 m (shN how s c m) := by
  have hall : sumN c m ≤ m * 2 ^ 26 := sumN_bd m (fun i hi => Nat.le_of_lt (hc i hi))
  have hall2 : sumN c m < 2 ^ 30 := Nat.lt_of_le_of_lt hall (Nat.lt_of_le_of_lt (Nat.mul_le_mul_right _ hm) (by decide))
  intro j
  induction j with
  | zero => intro k _ _ hj; omega
  | succ j ih =>
    intro k st hk hj hC h1
    simp only [fX11_shares_L59, fX11_shares_s59]
    by_cases q : k = m
    · subst q
      rw [if_pos (nI_le (Nat.le_refl _) (by omega))]
      have hz : ¬ sumN c k ≤ s := by omega
      simp only [fX11_shares_s144]
      by_cases q0 : how = 0
      · subst q0
        rw [if_pos rfl]
        refine ⟨st, ?_, kRs.rf st, fun i hi => ?_⟩
        · simp only [fX11_shares_s152, fX11_shares_s153]
          obtain ⟨n', rfl⟩ : ∃ n', n = n' + 1 := ⟨n - 1, by omega⟩
          rfl
        · rw [h1 i hi, if_pos rfl]; unfold shN; rw [if_neg hz, if_pos rfl]; rfl
      · rw [if_neg (nI_ne0 (by omega) (by omega)), if_neg q0]
        simp only [fX11_shares_s148, fX11_shares_s153]
        by_cases q1 : how = 1
        · subst q1
          rw [if_pos rfl]
          have hG : GtM st k (prtN c k s) := fun i hi => by rw [h1 i hi, if_neg q0, if_pos rfl]
          obtain ⟨n', rfl⟩ : ∃ n', n = n' + 2 := ⟨n - 2, by omega⟩
          rw [m_L155]
          by_cases z : s - sumN (prtN c k s) k = 0
          · rw [if_pos ((l_le0 (by omega)).mpr z)]
            refine ⟨st, rfl, kRs.rf st, fun i hi => ?_⟩
            rw [hG i hi]; unfold shN; rw [if_neg hz, if_neg q0, if_pos rfl, z, one_zero]
          · rw [if_neg (fun w => z ((l_le0 (by omega)).mp w))]
            obtain ⟨s1, a1, a2, a3⟩ := m_one (n' + 2) k (s - sumN (prtN c k s) k) (by omega) (fX11_shares_L155 (n' + 2) (n' + 1)) (nI 1) hm (by omega) (prtN c k s) c (fun i hi => by have := prt_le ha i; have := hc i hi; omega) (fun i hi => by have := hc i hi; omega) st hC hG
            refine ⟨s1, ?_, a2, fun i hi => ?_⟩
            · rw [a1]
              rfl
            · rw [a3 i hi]; unfold shN; rw [if_neg hz, if_neg q0, if_pos rfl]
        · have q2 : how = 2 := by omega
          subst q2
          rw [if_neg q1]
          have e0 : sumN (cutN c 0) k = 0 := by
            rw [sumN_congr (g := fun _ => 0) k (fun i _ => by unfold cutN; split <;> omega), sumN_cut (N := 0) k (Nat.zero_le _) (fun _ _ _ => rfl)]; rfl
          obtain ⟨s1, a1, a2, a3⟩ := m_evL n k s hm (by omega) hs c hc ha n 0 st (by omega) (by omega) hC (fun i hi => by
            rw [h1 i hi, if_neg q0, if_neg q1]; congr 1)
          rw [e0, Nat.sub_zero] at a1
          refine ⟨s1, a1, a2, fun i hi => ?_⟩
          rw [a3 i hi]; unfold shN; rw [if_neg hz, if_neg q0, if_neg q1]
    · rw [if_neg (nI_ge (by omega) (by omega))]
      have hkc := hc k (by omega)
      have fin : ∀ (v w : Nat), v = (if how = 0 then numN s c k else if how = 1 then prtN c m s k else 0) → v ≤ w → w - v = (if how = 0 then s - sumN c (k + 1) else if how = 1 then s - sumN (prtN c m s) (k + 1) else s) → ∃ st1, fX11_shares_s125 n (fX11_shares_L59 n j) (nI how) (lN s) (nI m) (lN (sumN c m)) (lN w) (nI k) (nI k) (lN v) st = some ((), st1) ∧ kRs st st1 ∧ GtM st1 m (shN how s c m) := by
        intro v w hv hvw hw
        simp only [fX11_shares_s125, fX11_shares_s126, inb_nI (show k < 8 by omega) (by decide), nI_clamp (show k < 2 ^ 31 by omega), if_true, nI_1, sJ_at]
        rw [lN_sub hvw, hw]
        have hp := kRs.pt st k (lN v)
        obtain ⟨s1, a1, a2, a3⟩ := ih (k + 1) (setJ st 152 k (lN v)) (by omega) (by omega) (hC.k hp) (fun i hi => by
          by_cases e : i = k
          · subst e; rw [sJ_at, hv]
          · rw [sJ_k e]; exact h1 i (by omega))
        exact ⟨s1, a1, hp.tr a2, a3⟩
      simp only [fX11_shares_s66]
      by_cases q0 : how = 0
      · subst q0
        rw [if_pos (show nI 0 = 0 from rfl), if_pos (show (0 : Nat) = 0 from rfl)]
        simp only [fX11_shares_s76, fX11_shares_s99, fX11_shares_s89, inb_nI (show k < 8 by omega) (by decide), nI_clamp (show k < 2 ^ 31 by omega), if_true, hC k (by omega)]
        have hn1 : s - sumN c k - numN s c k = s - sumN c (k + 1) := by rw [sumN]; unfold numN; split <;> omega
        by_cases r : c k < s - sumN c k
        · rw [if_neg (fun w => by have := (pk_lLE (by omega) (by omega)).mp w; omega)]
          have hv : c k = numN s c k := by unfold numN; rw [if_pos r]
          exact fin (c k) (s - sumN c k) (by rw [if_pos rfl]; exact hv) (by omega) (by rw [if_pos rfl, ← hn1, ← hv])
        · rw [if_pos ((pk_lLE (by omega) (by omega)).mpr (by omega))]
          have hv : s - sumN c k = numN s c k := by unfold numN; rw [if_neg r]
          exact fin (s - sumN c k) (s - sumN c k) (by rw [if_pos rfl]; exact hv) (Nat.le_refl _) (by rw [if_pos rfl, ← hn1, ← hv])
      · rw [if_neg (nI_ne0 (by omega) (by omega)), if_neg q0]
        simp only [fX11_shares_s104]
        by_cases q1 : how = 1
        · subst q1
          rw [if_pos (show nI 1 = 1 from rfl), if_pos (show (1 : Nat) = 1 from rfl)]
          have hmul : s * c k < 2 ^ 63 := Nat.lt_of_lt_of_le (Nat.mul_lt_mul'' hs hkc) (by decide)
          have hzz : ¬ lN (sumN c m) = 0 := fun w => by have := (fb0 (by omega) w); omega
          simp only [fX11_shares_s109, inb_nI (show k < 8 by omega) (by decide), nI_clamp (show k < 2 ^ 31 by omega), if_true, hC k (by omega), if_neg hzz]
          rw [lN_mul, pk_lDiv hmul (by omega) (by omega)]
          have hsum := prt_sum (c := c) (m := m) (s := s) (by omega) (k + 1) (by omega)
          rw [sumN] at hsum
          exact fin (prtN c m s k) (s - sumN (prtN c m s) k) (by rw [if_neg q0, if_pos rfl]) (by omega) (by rw [if_neg q0, if_pos rfl, sumN]; omega)
        · rw [if_neg (show ¬ nI how = 1 from fun w => q1 ((nI_eq (by omega) (b := 1) (by decide)).mp w)), if_neg q1]
          simp only [fX11_shares_s124]
          exact fin 0 s (by rw [if_neg q0, if_neg q1]) (Nat.zero_le _) (by rw [if_neg q0, if_neg q1]; rfl)
theorem m_sharesL (n m s how : Nat) (hm : m ≤ 8) (hn : 2 ^ 27 ≤ n) (hh : how ≤ 2) (hs : s < 2 ^ 26) (c : Nat → Nat) (hc : ∀ i, i < m → c i < 2 ^ 26) : ∀ (j k : Nat) (st : St), k ≤ m → m - k < j → ClM st m c → (∀ i, i < k → st.2 152 i = lN (c i)) → ∃ st1, fX11_shares_L6 n j (nI how) (lN s) (nI m) (lN (sumN c k)) (nI k) st = some ((), st1) ∧ kRs st st1 ∧ GtM st1 m (shN how s c m) := by
  have hall : sumN c m ≤ m * 2 ^ 26 := sumN_bd m (fun i hi => Nat.le_of_lt (hc i hi))
  have hall2 : sumN c m < 2 ^ 30 := Nat.lt_of_le_of_lt hall (Nat.lt_of_le_of_lt (Nat.mul_le_mul_right _ hm) (by decide))
  intro j
  induction j with
  | zero => intro k _ _ hj; omega
  | succ j ih =>
    intro k st hk hj hC h0
    simp only [fX11_shares_L6, fX11_shares_s6]
    by_cases q : k = m
    · subst q
      rw [if_pos (nI_le (Nat.le_refl _) (by omega))]
      simp only [fX11_shares_s45]
      by_cases z : sumN c k ≤ s
      · rw [if_neg (show ¬ lN s < lN (sumN c k) from fun w => by have := (pk_lLT (by omega) (by omega)).mp w; omega)]
        refine ⟨st, rfl, kRs.rf st, fun i hi => ?_⟩
        rw [h0 i hi]; unfold shN; rw [if_pos z]
      · rw [if_pos (show lN s < lN (sumN c k) from (pk_lLT (by omega) (by omega)).mpr (by omega))]
        simp only [fX11_shares_s53]
        obtain ⟨s1, a1, a2, a3⟩ := m_distL n k s how hm hn hh hs c hc (by omega) n 0 st (by omega) (by omega) hC (fun i hi => by omega)
        have e : (if how = 0 then s - sumN c 0 else if how = 1 then s - sumN (prtN c k s) 0 else s) = s := by
          rw [show sumN c 0 = 0 from rfl, show sumN (prtN c k s) 0 = 0 from rfl, Nat.sub_zero]; split <;> (try split) <;> rfl
        rw [e, show nI 0 = 0 from rfl] at a1
        exact ⟨s1, a1, a2, a3⟩
    · rw [if_neg (nI_ge (by omega) (by omega))]
      simp only [fX11_shares_s13, fX11_shares_s39, inb_nI (show k < 8 by omega) (by decide), nI_clamp (show k < 2 ^ 31 by omega), if_true, hC k (by omega), nI_1, lN_add]
      have hp := kRs.pt st k (lN (c k))
      obtain ⟨s1, a1, a2, a3⟩ := ih (k + 1) (setJ st 152 k (lN (c k))) (by omega) (by omega) (hC.k hp) (fun i hi => by
        by_cases z : i = k
        · subst z; rw [sJ_at]
        · rw [sJ_k z]; exact h0 i (by omega))
      exact ⟨s1, a1, hp.tr a2, a3⟩
theorem m_shares (n m s how : Nat) (hm : m ≤ 8) (hn : 2 ^ 27 ≤ n) (hh : how ≤ 2) (hs : s < 2 ^ 26) (c : Nat → Nat) (hc : ∀ i, i < m → c i < 2 ^ 26) (st : St) (hC : ClM st m c) : ∃ st1, fX11_shares n (nI how) (lN s) (nI m) st = some ((), st1) ∧ kRs st st1 ∧ GtM st1 m (shN how s c m) := by
  simp only [fX11_shares, fX11_shares_s0]
  exact m_sharesL n m s how hm hn hh hs c hc n 0 st (by omega) (by omega) hC (fun i hi => by omega)
