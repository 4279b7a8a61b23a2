/-! ===== allotments: the class's and the reference's over one picture ===== -/
theorem sumN_mono {f : Nat → Nat} : ∀ {a b : Nat}, a ≤ b → sumN f a ≤ sumN f b := by
  intro a b h
  induction b with
  | zero => rw [show a = 0 by omega]; exact Nat.le_refl _
  | succ b ih =>
    by_cases q : a = b + 1
    · rw [q]; exact Nat.le_refl _
    · rw [sumN]; have := ih (by omega); omega
def opn (g c : Nat → Nat) (k : Nat) : Nat := sumN (fun j => if g j < c j then 1 else 0) k
/-- 1 more each, by numbers, to those with less than their claim, as far as l goes -/
def one (g c : Nat → Nat) (l i : Nat) : Nat := if g i < c i ∧ opn g c i < l then g i + 1 else g i
theorem opn_le (g c : Nat → Nat) (k : Nat) : opn g c k ≤ k := by
  have := sumN_bd (f := fun j => if g j < c j then 1 else 0) (B := 1) k (fun i _ => by split <;> omega)
  unfold opn; omega
theorem opn_pos {g c : Nat → Nat} {k : Nat} (h : g k < c k) : opn g c (k + 1) = opn g c k + 1 := by unfold opn; rw [sumN, if_pos h]
theorem opn_neg {g c : Nat → Nat} {k : Nat} (h : ¬ g k < c k) : opn g c (k + 1) = opn g c k := by unfold opn; rw [sumN, if_neg h]; rfl
theorem opn_mono {g c : Nat → Nat} {a b : Nat} (h : a ≤ b) : opn g c a ≤ opn g c b := sumN_mono h
theorem opn_congr {g g' c : Nat → Nat} (k : Nat) (h : ∀ i, i < k → g i = g' i) : opn g c k = opn g' c k := sumN_congr k (fun i hi => by rw [h i hi])
theorem one_congr {g g' c : Nat → Nat} (l i : Nat) (h : ∀ j, j ≤ i → g j = g' j) : one g c l i = one g' c l i := by
  unfold one
  rw [opn_congr i (fun j hj => h j (by omega)), h i (Nat.le_refl _)]
theorem one_zero (g c : Nat → Nat) (i : Nat) : one g c 0 i = g i := by unfold one; rw [if_neg (fun h => by omega)]
theorem one_le {g c : Nat → Nat} {l i : Nat} (h : g i ≤ c i) : one g c l i ≤ c i := by unfold one; split <;> omega
theorem one_out {g c : Nat → Nat} {l k i : Nat} (h : l ≤ opn g c k) (hi : k ≤ i) : one g c l i = g i := by
  unfold one
  rw [if_neg (fun w => by have := opn_mono (g := g) (c := c) hi; omega)]
theorem one_all {g c : Nat → Nat} {l m i : Nat} (h : opn g c m ≤ l) (hi : i < m) : one g c l i = if g i < c i then g i + 1 else g i := by
  unfold one
  by_cases q : g i < c i
  · have e := opn_pos q
    have := opn_mono (g := g) (c := c) (show i + 1 ≤ m by omega)
    rw [if_pos ⟨q, by omega⟩, if_pos q]
  · rw [if_neg (fun w => q w.1), if_neg q]
theorem one_sum (g c : Nat → Nat) (l : Nat) : ∀ k, sumN (one g c l) k = sumN g k + (if opn g c k < l then opn g c k else l) := by
  intro k
  induction k with
  | zero => show 0 = 0 + (if 0 < l then 0 else l); split <;> omega
  | succ k ih =>
    rw [sumN, sumN, ih]
    by_cases q : g k < c k
    · rw [opn_pos q]
      by_cases r : opn g c k < l
      · rw [show one g c l k = g k + 1 from if_pos ⟨q, r⟩, if_pos r]; split <;> omega
      · rw [show one g c l k = g k from if_neg (fun w => r w.2), if_neg r, if_neg (by omega)]; omega
    · rw [opn_neg q, show one g c l k = g k from if_neg (fun w => q w.1)]; omega
/-- to what height all get, and the sum of that -/
def cutN (c : Nat → Nat) (t j : Nat) : Nat := if c j < t then c j else t
theorem cut_open {c : Nat → Nat} {t j : Nat} : cutN c t j < c j ↔ t < c j := by unfold cutN; split <;> omega
theorem cut_le (c : Nat → Nat) (t j : Nat) : cutN c t j ≤ c j := by unfold cutN; split <;> omega
theorem cut_t (c : Nat → Nat) (t j : Nat) : cutN c t j ≤ t := by unfold cutN; split <;> omega
theorem cut_succ (c : Nat → Nat) (t : Nat) : ∀ m, sumN (cutN c (t + 1)) m = sumN (cutN c t) m + opn (cutN c t) c m := by
  intro m
  induction m with
  | zero => rfl
  | succ m ih =>
    rw [sumN, sumN, ih]
    by_cases q : cutN c t m < c m
    · rw [opn_pos q]; have := cut_open.mp q; unfold cutN; rw [if_neg (by omega), if_neg (by omega)]; omega
    · rw [opn_neg q]; have : ¬ t < c m := fun w => q (cut_open.mpr w)
      have e : cutN c (t + 1) m = cutN c t m := by unfold cutN; rw [if_pos (by omega)]; split <;> omega
      rw [e]; omega
theorem cut_full {c : Nat → Nat} {t : Nat} : ∀ m, opn (cutN c t) c m = 0 → sumN (cutN c t) m = sumN c m := by
  intro m
  induction m with
  | zero => intro _; rfl
  | succ m ih =>
    intro h
    by_cases q : cutN c t m < c m
    · rw [opn_pos q] at h; omega
    · rw [opn_neg q] at h
      rw [sumN, sumN, ih h]; have := cut_le c t m; omega
theorem cut_mono {c : Nat → Nat} {t u : Nat} (h : t ≤ u) : ∀ m, sumN (cutN c t) m ≤ sumN (cutN c u) m := by
  intro m
  induction m with
  | zero => exact Nat.le_refl _
  | succ m ih => rw [sumN, sumN]; have : cutN c t m ≤ cutN c u m := by unfold cutN; split <;> split <;> omega
                 omega
def lvT (c : Nat → Nat) (m s T : Nat) : Prop := sumN (cutN c T) m ≤ s ∧ s < sumN (cutN c (T + 1)) m
theorem lvT_uniq {c : Nat → Nat} {m s T U : Nat} (h : lvT c m s T) (k : lvT c m s U) : T = U := by
  rcases Nat.lt_trichotomy T U with q | q | q
  · have := cut_mono (c := c) (show T + 1 ≤ U by omega) m
    exact absurd k.1 (by have := h.2; omega)
  · exact q
  · have := cut_mono (c := c) (show U + 1 ≤ T by omega) m
    exact absurd h.1 (by have := k.2; omega)
noncomputable def levT (c : Nat → Nat) (m s : Nat) : Nat := Classical.epsilon (fun T => lvT c m s T)
theorem levT_eq {c : Nat → Nat} {m s T : Nat} (h : lvT c m s T) : levT c m s = T := lvT_uniq (Classical.epsilon_spec (p := fun T => lvT c m s T) ⟨T, h⟩) h
def prtN (c : Nat → Nat) (m s j : Nat) : Nat := s * c j / sumN c m
/-- what each gets of s -/
noncomputable def shN (how s : Nat) (c : Nat → Nat) (m i : Nat) : Nat :=
  if sumN c m ≤ s then c i
  else if how = 0 then (if c i < s - sumN c i then c i else s - sumN c i)
  else if how = 1 then one (prtN c m s) c (s - sumN (prtN c m s) m) i
  else one (cutN c (levT c m s)) c (s - sumN (cutN c (levT c m s)) m) i
theorem prt_sum {c : Nat → Nat} {m s : Nat} (ha : 0 < sumN c m) : ∀ k, k ≤ m → sumN (prtN c m s) k ≤ s := by
  intro k hk
  have h1 : ∀ k, sumN c m * sumN (prtN c m s) k ≤ s * sumN c k := by
    intro k
    induction k with
    | zero => exact Nat.le_refl _
    | succ k ih =>
      rw [sumN, sumN, Nat.mul_add, Nat.mul_add]
      have : sumN c m * prtN c m s k ≤ s * c k := by unfold prtN; rw [Nat.mul_comm]; exact Nat.div_mul_le_self _ _
      omega
  have h2 := h1 k
  have h3 : s * sumN c k ≤ s * sumN c m := Nat.mul_le_mul_left _ (sumN_mono hk)
  have h4 : sumN c m * sumN (prtN c m s) k ≤ sumN c m * s := by rw [Nat.mul_comm (sumN c m) s]; omega
  exact Nat.le_of_mul_le_mul_left h4 ha
theorem prt_le {c : Nat → Nat} {m s : Nat} (hs : s < sumN c m) (j : Nat) : prtN c m s j ≤ c j := by
  unfold prtN
  apply Nat.div_le_of_le_mul
  exact Nat.mul_le_mul_right _ (Nat.le_of_lt hs)
theorem sh_le (how s : Nat) (c : Nat → Nat) (m i : Nat) : shN how s c m i ≤ c i := by
  unfold shN
  by_cases q : sumN c m ≤ s
  · rw [if_pos q]; exact Nat.le_refl _
  · rw [if_neg q]
    split
    · split <;> omega
    · split
      · exact one_le (prt_le (by omega) i)
      · exact one_le (cut_le _ _ _)
/-! the class's -/
def kSh (b : Nat) (st st1 : St) : Prop := st1.2 = st.2 ∧ ∀ o, o ≠ b + 2 → st1.1 o = st.1 o
theorem kSh.rf (b : Nat) (st : St) : kSh b st st := ⟨rfl, fun _ _ => rfl⟩
theorem kSh.tr {b : Nat} {x y z : St} (h : kSh b x y) (k : kSh b y z) : kSh b x z := ⟨k.1.trans h.1, fun o ho => (k.2 o ho).trans (h.2 o ho)⟩
theorem kSh.pt (b : Nat) (st : St) (i : Nat) (v : Int32) : kSh b st (setI st (b + 2) i v) := ⟨rfl, fun _ ho => sI_o ho⟩
/-- the claims there, m of them -/
def ClR (st : St) (b m : Nat) (c : Nat → Nat) : Prop := st.1 b 2 = nI m ∧ ∀ i, i < m → st.1 (b + 1) i = nI (c i)
theorem ClR.k {st st1 : St} {b m : Nat} {c : Nat → Nat} (h : ClR st b m c) (k : kSh b st st1) : ClR st1 b m c := ⟨by rw [k.2 b (by omega)]; exact h.1, fun i hi => by rw [k.2 (b + 1) (by omega)]; exact h.2 i hi⟩
def GtR (st : St) (b m : Nat) (g : Nat → Nat) : Prop := ∀ i, i < m → st.1 (b + 2) i = nI (g i)
theorem c_oneL (n b m l : Nat) (hm : m ≤ 8) (hl : l < 2 ^ 30) (g c : Nat → Nat) (hg : ∀ i, i < m → g i < 2 ^ 30) (hc : ∀ i, i < m → c i < 2 ^ 30) : ∀ (j k : Nat) (st : St), k ≤ m → m - k < j → ClR st b m c → (∀ i, i < k → st.1 (b + 2) i = nI (one g c l i)) → (∀ i, k ≤ i → i < m → st.1 (b + 2) i = nI (g i)) → ∃ st1, fX8_oneEach_L4 n b j (nI (l - opn g c k)) (nI k) st = some ((), st1) ∧ kSh b st st1 ∧ GtR st1 b m (one g c l) := by
  intro j
  induction j with
  | zero => intro k _ _ hj; omega
  | succ j ih =>
    intro k st hk hj hC h1 h2
    simp only [fX8_oneEach_L4, fX8_oneEach_s4, hC.1]
    by_cases q : k = m
    · subst q
      rw [if_pos (nI_le (Nat.le_refl _) (by omega))]
      exact ⟨st, rfl, kSh.rf b st, h1⟩
    · rw [if_neg (nI_ge (by omega) (by omega))]
      simp only [fX8_oneEach_s12]
      by_cases z : l - opn g c k = 0
      · rw [z, if_pos (show nI 0 ≤ 0 by decide)]
        refine ⟨st, rfl, kSh.rf b st, fun i hi => ?_⟩
        by_cases r : i < k
        · exact h1 i r
        · rw [h2 i (by omega) hi, one_out (k := k) (by omega) (by omega)]
      · rw [if_neg (nI_nle (by omega) (by omega))]
        have hkc := hc k (by omega)
        have hkg := hg k (by omega)
        simp only [fX8_oneEach_s16, fX8_oneEach_s44, fX8_oneEach_s31, fX8_oneEach_s41, inb_nI (show k < 8 by omega) (by decide), nI_clamp (show k < 2 ^ 31 by omega), if_true, hC.2 k (by omega), h2 k (Nat.le_refl _) (by omega), nI_1]
        by_cases r : g k < c k
        · rw [if_neg (nI_ge r (by omega))]
          have e1 : nI (l - opn g c k) + (-1) = nI (l - opn g c (k + 1)) := by rw [opn_pos r, sb_m1 (by omega)]; congr 1
          rw [e1]
          have hp := kSh.pt b st k (nI (g k + 1))
          obtain ⟨s1, a1, a2, a3⟩ := ih (k + 1) (setI st (b + 2) k (nI (g k + 1))) (by omega) (by omega) (hC.k hp) (fun i hi => by
            by_cases e : i = k
            · subst e; rw [sI_at]; unfold one; rw [if_pos ⟨r, by omega⟩]
            · rw [sI_k e]; exact h1 i (by omega)) (fun i hi hi2 => by rw [sI_k (by omega)]; exact h2 i (by omega) hi2)
          exact ⟨s1, a1, hp.tr a2, a3⟩
        · rw [if_pos (nI_le (by omega) (by omega))]
          rw [← opn_neg r]
          exact ih (k + 1) st (by omega) (by omega) hC (fun i hi => by
            by_cases e : i = k
            · subst e; rw [h2 i (Nat.le_refl _) (by omega)]; unfold one; rw [if_neg (fun w => r w.1)]
            · exact h1 i (by omega)) (fun i hi hi2 => h2 i (by omega) hi2)
theorem c_one (n b m l : Nat) (hn : 100 ≤ n) (hm : m ≤ 8) (hl : l < 2 ^ 30) (g c : Nat → Nat) (hg : ∀ i, i < m → g i < 2 ^ 30) (hc : ∀ i, i < m → c i < 2 ^ 30) (st : St) (hC : ClR st b m c) (hG : GtR st b m g) : ∃ st1, fX8_oneEach n b (nI l) st = some ((), st1) ∧ kSh b st st1 ∧ GtR st1 b m (one g c l) := by
  simp only [fX8_oneEach, fX8_oneEach_s0]
  exact c_oneL n b m l hm hl g c hg hc n 0 st (by omega) (by omega) hC (fun i hi => by omega) (fun i _ hi => hG i hi)
def numN (s : Nat) (c : Nat → Nat) (i : Nat) : Nat := if c i < s - sumN c i then c i else s - sumN c i
theorem c_numL (n b m s : Nat) (hm : m ≤ 8) (hs : s < 2 ^ 30) (c : Nat → Nat) (hc : ∀ i, i < m → c i < 2 ^ 30) : ∀ (j k : Nat) (st : St), k ≤ m → m - k < j → ClR st b m c → (∀ i, i < k → st.1 (b + 2) i = nI (numN s c i)) → ∃ st1, fX8_byNumbers_L4 n b j (nI (s - sumN c k)) (nI k) st = some ((), st1) ∧ kSh b st st1 ∧ GtR st1 b m (numN s c) := by
  intro j
  induction j with
  | zero => intro k _ _ hj; omega
  | succ j ih =>
    intro k st hk hj hC h1
    simp only [fX8_byNumbers_L4, fX8_byNumbers_s4, hC.1]
    by_cases q : k = m
    · subst q
      rw [if_pos (nI_le (Nat.le_refl _) (by omega))]
      exact ⟨st, rfl, kSh.rf b st, h1⟩
    · rw [if_neg (nI_ge (by omega) (by omega))]
      have hkc := hc k (by omega)
      have e0 : (if nI (c k) < nI (s - sumN c k) then nI (c k) else nI (s - sumN c k)) = nI (numN s c k) := by
        unfold numN
        by_cases r : c k < s - sumN c k
        · rw [if_pos (nI_lt r (by omega)), if_pos r]
        · rw [if_neg (nI_nlt (by omega) (by omega)), if_neg r]
      simp only [fX8_byNumbers_s12, fX8_byNumbers_s28, inb_nI (show k < 8 by omega) (by decide), nI_clamp (show k < 2 ^ 31 by omega), if_true, hC.2 k (by omega), nI_1, e0, sI_at]
      have e1 : nI (s - sumN c k) - nI (numN s c k) = nI (s - sumN c (k + 1)) := by
        rw [pk_sub (by unfold numN; split <;> omega)]
        congr 1
        rw [sumN]; unfold numN; split <;> omega
      rw [e1]
      have hp := kSh.pt b st k (nI (numN s c k))
      obtain ⟨s1, a1, a2, a3⟩ := ih (k + 1) (setI st (b + 2) k (nI (numN s c k))) (by omega) (by omega) (hC.k hp) (fun i hi => by
        by_cases e : i = k
        · subst e; rw [sI_at]
        · rw [sI_k e]; exact h1 i (by omega))
      exact ⟨s1, a1, hp.tr a2, a3⟩
theorem fb0 {a : Nat} (ha : a < 2 ^ 63) (h : lN a = 0) : a = 0 := (pk_lEQ ha (b := 0) (by decide)).mp h
theorem c_prtL (n b m s : Nat) (hm : m ≤ 8) (hn : 100 ≤ n) (hs : s < 2 ^ 26) (c : Nat → Nat) (hc : ∀ i, i < m → c i < 2 ^ 26) (ha : s < sumN c m) : ∀ (j k : Nat) (st : St), k ≤ m → m - k < j → ClR st b m c → (∀ i, i < k → st.1 (b + 2) i = nI (prtN c m s i)) → ∃ st1, fX8_byParts_L13 n b j (nI s) (lN (sumN c m)) (nI (s - sumN (prtN c m s) k)) (nI k) st = some ((), st1) ∧ kSh b st st1 ∧ GtR st1 b m (one (prtN c m s) c (s - sumN (prtN c m s) m)) := by
  have hall : sumN c m ≤ m * 2 ^ 26 := sumN_bd m (fun i hi => Nat.le_of_lt (hc i hi))
  have hall2 : sumN c m < 2 ^ 30 := Nat.lt_of_le_of_lt hall (Nat.lt_of_le_of_lt (Nat.mul_le_mul_right _ hm) (by decide))
  intro j
  induction j with
  | zero => intro k _ _ hj; omega
  | succ j ih =>
    intro k st hk hj hC h1
    simp only [fX8_byParts_L13, fX8_byParts_s13, hC.1]
    by_cases q : k = m
    · subst q
      rw [if_pos (nI_le (Nat.le_refl _) (by omega))]
      obtain ⟨s1, a1, a2, a3⟩ := c_one n b k (s - sumN (prtN c k s) k) hn hm (by omega) (prtN c k s) c (fun i hi => by have := prt_le ha i; have := hc i hi; omega) (fun i hi => by have := hc i hi; omega) st hC h1
      refine ⟨s1, ?_, a2, a3⟩
      simp only [fX8_byParts_s61, a1, Option.bind_some, fX8_byParts_s67]
    · rw [if_neg (nI_ge (by omega) (by omega))]
      have hkc := hc k (by omega)
      have hle := prt_le ha k
      have e0 : (((nI s).toInt64 * (nI (c k)).toInt64) / lN (sumN c m)).toInt32 = nI (prtN c m s k) := by
        have hmul : s * c k < 2 ^ 63 := Nat.lt_of_lt_of_le (Nat.mul_lt_mul'' hs hkc) (by decide)
        rw [nI_l (by omega), nI_l (by omega), lN_mul, pk_lDiv hmul (by omega) (by omega), lN_i]; rfl
      have hz : ¬ lN (sumN c m) = 0 := fun w => by have := (fb0 (by omega) w); omega
      simp only [fX8_byParts_s22, fX8_byParts_s43, inb_nI (show k < 8 by omega) (by decide), nI_clamp (show k < 2 ^ 31 by omega), if_true, hC.2 k (by omega), nI_1, e0, if_neg hz, sI_at]
      have hsum := prt_sum (c := c) (m := m) (s := s) (by omega) (k + 1) (by omega)
      rw [sumN] at hsum
      have e1 : nI (s - sumN (prtN c m s) k) - nI (prtN c m s k) = nI (s - sumN (prtN c m s) (k + 1)) := by
        rw [pk_sub (by omega)]; congr 1; rw [sumN]; omega
      rw [e1]
      have hp := kSh.pt b st k (nI (prtN c m s k))
      obtain ⟨s1, a1, a2, a3⟩ := ih (k + 1) (setI st (b + 2) k (nI (prtN c m s k))) (by omega) (by omega) (hC.k hp) (fun i hi => by
        by_cases e : i = k
        · subst e; rw [sI_at]
        · rw [sI_k e]; exact h1 i (by omega))
      exact ⟨s1, a1, hp.tr a2, a3⟩
