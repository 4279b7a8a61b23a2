/-! ===== allotment 2: as evenly as can be ===== -/
/-- the least that one of the first k lacks, at most l -/
def lst (g c : Nat → Nat) (l : Nat) : Nat → Nat
  | 0 => l
  | k + 1 => if g k < c k then (if c k - g k < lst g c l k then c k - g k else lst g c l k) else lst g c l k
theorem lst_le (g c : Nat → Nat) (l : Nat) : ∀ k, lst g c l k ≤ l := by
  intro k
  induction k with
  | zero => exact Nat.le_refl _
  | succ k ih => rw [lst]; split <;> (try split) <;> omega
theorem lst_pos (g c : Nat → Nat) {l : Nat} (hl : 0 < l) : ∀ k, 0 < lst g c l k := by
  intro k
  induction k with
  | zero => exact hl
  | succ k ih => rw [lst]; split <;> (try split) <;> omega
theorem lst_gap (g c : Nat → Nat) (l : Nat) : ∀ k i, i < k → g i < c i → lst g c l k ≤ c i - g i := by
  intro k
  induction k with
  | zero => intro i hi; omega
  | succ k ih =>
    intro i hi ho
    rw [lst]
    by_cases e : i = k
    · subst e; rw [if_pos ho]; split <;> omega
    · have := ih i (by omega) ho
      split <;> (try split) <;> omega
theorem lst_at (g c : Nat → Nat) (l : Nat) : ∀ k, lst g c l k = l ∨ ∃ i, i < k ∧ g i < c i ∧ lst g c l k = c i - g i := by
  intro k
  induction k with
  | zero => exact Or.inl rfl
  | succ k ih =>
    have lift : (lst g c l k = l ∨ ∃ i, i < k ∧ g i < c i ∧ lst g c l k = c i - g i) → (lst g c l k = l ∨ ∃ i, i < k + 1 ∧ g i < c i ∧ lst g c l k = c i - g i) := by
      rintro (h | ⟨i, h1, h2, h3⟩)
      · exact Or.inl h
      · exact Or.inr ⟨i, by omega, h2, h3⟩
    rw [lst]
    by_cases q : g k < c k
    · rw [if_pos q]
      by_cases r : c k - g k < lst g c l k
      · rw [if_pos r]; exact Or.inr ⟨k, by omega, q, rfl⟩
      · rw [if_neg r]; exact lift ih
    · rw [if_neg q]; exact lift ih
theorem cut_add {c : Nat → Nat} {t e : Nat} {i : Nat} (h : cutN c t i < c i → e ≤ c i - cutN c t i) : cutN c (t + e) i = if cutN c t i < c i then cutN c t i + e else cutN c t i := by
  by_cases q : cutN c t i < c i
  · have h1 := h q
    rw [if_pos q]
    have h2 := cut_open.mp q
    unfold cutN at h1 ⊢
    rw [if_neg (by omega)] at h1
    rw [if_neg (by omega), if_neg (by omega)]
  · rw [if_neg q]
    have : ¬ t < c i := fun w => q (cut_open.mpr w)
    unfold cutN; split <;> split <;> omega
theorem cut_addS {c : Nat → Nat} {t e : Nat} : ∀ m, (∀ i, i < m → cutN c t i < c i → e ≤ c i - cutN c t i) → sumN (cutN c (t + e)) m = sumN (cutN c t) m + e * opn (cutN c t) c m := by
  intro m
  induction m with
  | zero => intro _; rfl
  | succ m ih =>
    intro h
    rw [sumN, sumN, ih (fun i hi => h i (by omega)), cut_add (h m (by omega))]
    by_cases q : cutN c t m < c m
    · rw [opn_pos q, if_pos q, Nat.mul_add]; omega
    · rw [opn_neg q, if_neg q]; omega
/-- fewer are open at a greater height, and one less if one is closed by it -/
theorem opn_cut {c : Nat → Nat} {t u : Nat} (h : t ≤ u) : ∀ m, opn (cutN c u) c m ≤ opn (cutN c t) c m := by
  intro m
  induction m with
  | zero => exact Nat.le_refl _
  | succ m ih =>
    by_cases q : u < c m
    · rw [opn_pos (cut_open.mpr q), opn_pos (cut_open.mpr (by omega))]; omega
    · rw [opn_neg (fun w => q (cut_open.mp w))]
      have := opn_mono (g := cutN c t) (c := c) (show m ≤ m + 1 by omega)
      omega
theorem opn_cut1 {c : Nat → Nat} {t u i : Nat} (h : t ≤ u) (h1 : t < c i) (h2 : c i ≤ u) : ∀ m, i < m → opn (cutN c u) c m + 1 ≤ opn (cutN c t) c m := by
  intro m
  induction m with
  | zero => intro hi; omega
  | succ m ih =>
    intro hi
    by_cases e : i = m
    · subst e
      rw [opn_neg (fun w => by have := cut_open.mp w; omega), opn_pos (cut_open.mpr h1)]
      have := opn_cut (c := c) h i; omega
    · have k1 := ih (by omega)
      by_cases q : u < c m
      · rw [opn_pos (cut_open.mpr q), opn_pos (cut_open.mpr (by omega))]; omega
      · rw [opn_neg (fun w => q (cut_open.mp w))]
        have := opn_mono (g := cutN c t) (c := c) (show m ≤ m + 1 by omega)
        omega
theorem c_ev27 (n b m l : Nat) (K4 : Int32 → Int32 → St → Option (Unit × St)) (hm : m ≤ 8) (hl : l < 2 ^ 30) (v3 : Int32) (g c : Nat → Nat) (hg : ∀ i, i < m → g i < 2 ^ 30) (hc : ∀ i, i < m → c i < 2 ^ 30) (st : St) (hC : ClR st b m c) (hG : GtR st b m g) : ∀ (j k : Nat), k ≤ m → m - k < j → fX8_evenly_L27 n K4 b j (nI l) v3 (nI (opn g c k)) (nI (lst g c l k)) (nI k) st = fX8_evenly_s84 n K4 b (nI l) v3 (nI (opn g c m)) (nI (lst g c l m)) st := by
  intro j
  induction j with
  | zero => intro k _ hj; omega
  | succ j ih =>
    intro k hk hj
    simp only [fX8_evenly_L27, fX8_evenly_s27, hC.1]
    by_cases q : k = m
    · subst q
      rw [if_pos (nI_le (Nat.le_refl _) (by omega))]
    · rw [if_neg (nI_ge (by omega) (by omega))]
      have hkc := hc k (by omega)
      have hkg := hg k (by omega)
      simp only [fX8_evenly_s36, fX8_evenly_s78, fX8_evenly_s53, inb_nI (show k < 8 by omega) (by decide), nI_clamp (show k < 2 ^ 31 by omega), if_true, hC.2 k (by omega), hG k (by omega), nI_1]
      have ih' := ih (k + 1) (by omega) (by omega)
      by_cases r : g k < c k
      · rw [if_neg (nI_ge r (by omega)), pk_sub (Nat.le_of_lt r), ← opn_pos r]
        have hll := lst_le g c l k
        have : (if nI (c k - g k) < nI (lst g c l k) then nI (c k - g k) else nI (lst g c l k)) = nI (lst g c l (k + 1)) := by
          rw [lst, if_pos r]
          by_cases z : c k - g k < lst g c l k
          · rw [if_pos (nI_lt z (by omega)), if_pos z]
          · rw [if_neg (nI_nlt (by omega) (by omega)), if_neg z]
        rw [this]; exact ih'
      · rw [if_pos (nI_le (by omega) (by omega))]
        rw [opn_neg r, lst, if_neg r] at ih'
        exact ih'
theorem c_ev115 (n b m l e : Nat) (K4 : Int32 → Int32 → St → Option (Unit × St)) (hm : m ≤ 8) (v3 : Int32) (g c : Nat → Nat) (hg : ∀ i, i < m → g i < 2 ^ 30) (hc : ∀ i, i < m → c i < 2 ^ 30) (hle : e * opn g c m ≤ l) : ∀ (j k : Nat) (st : St), k ≤ m → m - k < j → ClR st b m c → (∀ i, i < k → st.1 (b + 2) i = nI (if g i < c i then g i + e else g i)) → (∀ i, k ≤ i → i < m → st.1 (b + 2) i = nI (g i)) → ∃ st1, fX8_evenly_L115 n K4 b j (nI (l - e * opn g c k)) v3 (nI e) (nI k) st = fX8_evenly_s164 n K4 b (nI (l - e * opn g c m)) v3 st1 ∧ kSh b st st1 ∧ GtR st1 b m (fun i => if g i < c i then g i + e else g i) := by
  intro j
  induction j with
  | zero => intro k _ _ hj; omega
  | succ j ih =>
    intro k st hk hj hC h1 h2
    simp only [fX8_evenly_L115, fX8_evenly_s115, hC.1]
    by_cases q : k = m
    · subst q
      rw [if_pos (nI_le (Nat.le_refl _) (by omega))]
      exact ⟨st, rfl, kSh.rf b st, h1⟩
    · rw [if_neg (nI_ge (by omega) (by omega))]
      have hkc := hc k (by omega)
      have hkg := hg k (by omega)
      simp only [fX8_evenly_s124, fX8_evenly_s158, fX8_evenly_s141, fX8_evenly_s153, inb_nI (show k < 8 by omega) (by decide), nI_clamp (show k < 2 ^ 31 by omega), if_true, hC.2 k (by omega), h2 k (Nat.le_refl _) (by omega), nI_1, nI_add]
      by_cases r : g k < c k
      · rw [if_neg (nI_ge r (by omega))]
        have hmo := opn_mono (g := g) (c := c) (show k + 1 ≤ m by omega)
        have hmu : e * opn g c (k + 1) ≤ e * opn g c m := Nat.mul_le_mul_left _ hmo
        have e1 : nI (l - e * opn g c k) - nI e = nI (l - e * opn g c (k + 1)) := by
          rw [opn_pos r, Nat.mul_add, Nat.mul_one] at hmu ⊢
          rw [pk_sub (by omega)]; congr 1; omega
        rw [e1]
        have hp := kSh.pt b st k (nI (g k + e))
        obtain ⟨s1, a1, a2, a3⟩ := ih (k + 1) (setI st (b + 2) k (nI (g k + e))) (by omega) (by omega) (hC.k hp) (fun i hi => by
          by_cases z : i = k
          · subst z; rw [sI_at, if_pos r]
          · rw [sI_k z]; exact h1 i (by omega)) (fun i hi hi2 => by rw [sI_k (by omega)]; exact h2 i (by omega) hi2)
        exact ⟨s1, a1, hp.tr a2, a3⟩
      · rw [if_pos (nI_le (by omega) (by omega)), ← opn_neg r]
        exact ih (k + 1) st (by omega) (by omega) hC (fun i hi => by
          by_cases z : i = k
          · subst z; rw [h2 i (Nat.le_refl _) (by omega), if_neg r]
          · exact h1 i (by omega)) (fun i hi hi2 => h2 i (by omega) hi2)
theorem c_evL (n b m s : Nat) (hm : m ≤ 8) (hn : 100 ≤ n) (hs : s < 2 ^ 26) (c : Nat → Nat) (hc : ∀ i, i < m → c i < 2 ^ 26) (ha : s < sumN c m) : ∀ (j : Nat) (t u : Nat) (st : St), sumN (cutN c t) m ≤ s → m + 2 - u < j → u + (if s = sumN (cutN c t) m then 0 else if s - sumN (cutN c t) m < opn (cutN c t) c m then 1 else 1 + opn (cutN c t) c m) ≤ m + 1 → ClR st b m c → GtR st b m (cutN c t) → ∃ st1, fX8_evenly_L4 n b j (nI (s - sumN (cutN c t) m)) (nI u) st = some ((), st1) ∧ kSh b st st1 ∧ GtR st1 b m (one (cutN c (levT c m s)) c (s - sumN (cutN c (levT c m s)) m)) := by
  intro j
  induction j with
  | zero => intro t u _ _ hj; omega
  | succ j ih =>
    intro t u st ht hj hu hC hG
    have hop : 0 < opn (cutN c t) c m := Nat.pos_of_ne_zero (fun w => by have := cut_full m w; omega)
    simp only [fX8_evenly_L4, fX8_evenly_s4, hC.1]
    have hm2 : nI m + 2 = nI (m + 2) := by rw [show (2 : Int32) = nI 2 from rfl, nI_add]
    rw [hm2, if_neg (show ¬ nI (m + 2) ≤ nI u from nI_ge (by omega) (by omega))]
    simp only [fX8_evenly_s14]
    by_cases z : s = sumN (cutN c t) m
    · rw [show s - sumN (cutN c t) m = 0 by omega, if_pos (show nI 0 ≤ 0 by decide)]
      have hT : levT c m s = t := levT_eq ⟨ht, by rw [cut_succ]; omega⟩
      refine ⟨st, rfl, kSh.rf b st, fun i hi => ?_⟩
      rw [hT, ← z, Nat.sub_self, one_zero]
      exact hG i hi
    · rw [if_neg z] at hu
      have hl : 0 < s - sumN (cutN c t) m := by omega
      rw [if_neg (nI_nle hl (by omega))]
      have hg30 : ∀ i, i < m → cutN c t i < 2 ^ 30 := fun i hi => by have := cut_le c t i; have := hc i hi; omega
      have hc30 : ∀ i, i < m → c i < 2 ^ 30 := fun i hi => by have := hc i hi; omega
      have e27 := c_ev27 n b m (s - sumN (cutN c t) m) (fX8_evenly_L4 n b j) hm (by omega) (nI u) (cutN c t) c hg30 hc30 st hC hG n 0 (by omega) (by omega)
      rw [show nI (opn (cutN c t) c 0) = 0 from rfl, show lst (cutN c t) c (s - sumN (cutN c t) m) 0 = s - sumN (cutN c t) m from rfl, show nI 0 = 0 from rfl] at e27
      simp only [fX8_evenly_s18, e27, fX8_evenly_s84]
      have hopm := opn_le (cutN c t) c m
      rw [if_neg (nI_ne0 hop (by omega))]
      simp only [fX8_evenly_s89]
      by_cases q : s - sumN (cutN c t) m < opn (cutN c t) c m
      · rw [if_neg (nI_ge q (by omega))]
        have hT : levT c m s = t := levT_eq ⟨ht, by rw [cut_succ]; omega⟩
        obtain ⟨s1, a1, a2, a3⟩ := c_one n b m (s - sumN (cutN c t) m) hn hm (by omega) (cutN c t) c hg30 hc30 st hC hG
        refine ⟨s1, ?_, a2, by rw [hT]; exact a3⟩
        simp only [fX8_evenly_s95, a1, Option.bind_some, fX8_evenly_s100]
      · rw [if_neg q] at hu
        rw [if_pos (nI_le (by omega) (by omega))]
        simp only [fX8_evenly_s101]
        rw [if_neg (nI_ne0 hop (by omega))]
        have hll := lst_le (cutN c t) c (s - sumN (cutN c t) m) m
        have hlp := lst_pos (cutN c t) c hl m
        have hdv : 1 ≤ (s - sumN (cutN c t) m) / opn (cutN c t) c m := (Nat.le_div_iff_mul_le hop).mpr (by omega)
        have hdl : (s - sumN (cutN c t) m) / opn (cutN c t) c m ≤ s - sumN (cutN c t) m := Nat.div_le_self _ _
        have ee : (if nI (s - sumN (cutN c t) m) / nI (opn (cutN c t) c m) < nI (lst (cutN c t) c (s - sumN (cutN c t) m) m) then nI (s - sumN (cutN c t) m) / nI (opn (cutN c t) c m) else nI (lst (cutN c t) c (s - sumN (cutN c t) m) m)) = nI (if (s - sumN (cutN c t) m) / opn (cutN c t) c m < lst (cutN c t) c (s - sumN (cutN c t) m) m then (s - sumN (cutN c t) m) / opn (cutN c t) c m else lst (cutN c t) c (s - sumN (cutN c t) m) m) := by
          rw [pk_div (by omega) hop (by omega)]
          by_cases r : (s - sumN (cutN c t) m) / opn (cutN c t) c m < lst (cutN c t) c (s - sumN (cutN c t) m) m
          · rw [if_pos (nI_lt r (by omega)), if_pos r]
          · rw [if_neg (nI_nlt (by omega) (by omega)), if_neg r]
        rw [ee]
        generalize he : (if (s - sumN (cutN c t) m) / opn (cutN c t) c m < lst (cutN c t) c (s - sumN (cutN c t) m) m then (s - sumN (cutN c t) m) / opn (cutN c t) c m else lst (cutN c t) c (s - sumN (cutN c t) m) m) = e
        have he1 : 1 ≤ e ∧ e ≤ lst (cutN c t) c (s - sumN (cutN c t) m) m ∧ e ≤ (s - sumN (cutN c t) m) / opn (cutN c t) c m ∧ (e = (s - sumN (cutN c t) m) / opn (cutN c t) c m ∨ e = lst (cutN c t) c (s - sumN (cutN c t) m) m) := by
          rw [← he]; split <;> omega
        obtain ⟨he1, he2, he3, he4⟩ := he1
        have hgap : ∀ i, i < m → cutN c t i < c i → e ≤ c i - cutN c t i := fun i hi ho => Nat.le_trans he2 (lst_gap _ _ _ m i hi ho)
        have hmul : e * opn (cutN c t) c m ≤ s - sumN (cutN c t) m := Nat.le_trans (Nat.mul_le_mul_right _ he3) (Nat.div_mul_le_self _ _)
        have hsum := cut_addS (c := c) (t := t) (e := e) m hgap
        obtain ⟨s1, a1, a2, a3⟩ := c_ev115 n b m (s - sumN (cutN c t) m) e (fX8_evenly_L4 n b j) hm (nI u) (cutN c t) c hg30 hc30 hmul n 0 st (by omega) (by omega) hC (fun i hi => by omega) (fun i _ hi => hG i hi)
        rw [show e * opn (cutN c t) c 0 = 0 from rfl, Nat.sub_zero, show nI 0 = 0 from rfl] at a1
        rw [a1]
        simp only [fX8_evenly_s164, nI_1]
        rw [show s - sumN (cutN c t) m - e * opn (cutN c t) c m = s - sumN (cutN c (t + e)) m by omega]
        obtain ⟨s2, b1, b2, b3⟩ := ih (t + e) (u + 1) s1 (by omega) (by omega) (by
          by_cases z2 : s = sumN (cutN c (t + e)) m
          · rw [if_pos z2]; omega
          · rw [if_neg z2]
            by_cases q2 : s - sumN (cutN c (t + e)) m < opn (cutN c (t + e)) c m
            · rw [if_pos q2]; omega
            · rw [if_neg q2]
              have hoc := opn_cut (c := c) (show t ≤ t + e by omega) m
              rcases he4 with h4 | h4
              · have hmod := Nat.mod_lt (s - sumN (cutN c t) m) hop
                have hda := Nat.div_add_mod (s - sumN (cutN c t) m) (opn (cutN c t) c m)
                rw [← h4, Nat.mul_comm] at hda
                by_cases hcl : opn (cutN c (t + e)) c m = opn (cutN c t) c m
                · exfalso; omega
                · omega
              · rcases lst_at (cutN c t) c (s - sumN (cutN c t) m) m with h5 | ⟨i, hi, ho, h5⟩
                · exfalso
                  have h6 : e = s - sumN (cutN c t) m := by omega
                  have h7 : (s - sumN (cutN c t) m) * 1 ≤ (s - sumN (cutN c t) m) * opn (cutN c t) c m := Nat.mul_le_mul_left _ hop
                  have h8 : e * opn (cutN c t) c m = (s - sumN (cutN c t) m) * opn (cutN c t) c m := by rw [h6]
                  omega
                · have hcl := opn_cut1 (c := c) (t := t) (u := t + e) (i := i) (by omega) (cut_open.mp ho) (by
                    have : cutN c t i = t := by unfold cutN; rw [if_neg (by have := cut_open.mp ho; omega)]
                    omega) m hi
                  omega) (hC.k a2) (fun i hi => by rw [a3 i hi, cut_add (hgap i hi)])
        exact ⟨s2, b1, a2.tr b2, b3⟩
/-- the class's split -/
theorem c_split0 (n b m s how : Nat) (hm : m ≤ 8) (hn : 100 ≤ n) (hh : how ≤ 2) (hs : s < 2 ^ 26) (c : Nat → Nat) (hc : ∀ i, i < m → c i < 2 ^ 26) (st : St) (hC : ClR st b m c) (h0 : GtR st b m (fun _ => 0)) : ∃ st1, fX8_split_s39 n b (nI how) (nI s) (lN (sumN c m)) st = some ((), st1) ∧ kSh b st st1 ∧ GtR st1 b m (shN how s c m) := by
  have hall : sumN c m ≤ m * 2 ^ 26 := sumN_bd m (fun i hi => Nat.le_of_lt (hc i hi))
  have hall2 : sumN c m < 2 ^ 30 := Nat.lt_of_le_of_lt hall (Nat.lt_of_le_of_lt (Nat.mul_le_mul_right _ hm) (by decide))
  have hnum : ∃ st1, fX8_split_s50 n b (nI s) st = some ((), st1) ∧ kSh b st st1 ∧ GtR st1 b m (numN s c) := by
    obtain ⟨s1, a1, a2, a3⟩ := c_numL n b m s hm (by omega) c (fun i hi => by have := hc i hi; omega) n 0 st (by omega) (by omega) hC (fun i hi => by omega)
    rw [show sumN c 0 = 0 from rfl, Nat.sub_zero, show nI 0 = 0 from rfl] at a1
    refine ⟨s1, ?_, a2, a3⟩
    simp only [fX8_split_s50, fX8_byNumbers, fX8_byNumbers_s0, a1, Option.bind_some, fX8_split_s55, fX8_split_s77]
  have hbig : sumN c m ≤ s → ∀ i, i < m → numN s c i = c i := by
    intro h i hi
    have := sumN_mono (f := c) (show i + 1 ≤ m by omega)
    rw [sumN] at this
    unfold numN; split <;> omega
  simp only [fX8_split_s39]
  by_cases q0 : how = 0
  · rw [if_pos (by rw [q0]; rfl)]
    obtain ⟨s1, a1, a2, a3⟩ := hnum
    refine ⟨s1, a1, a2, fun i hi => ?_⟩
    rw [a3 i hi]
    unfold shN
    by_cases z : sumN c m ≤ s
    · rw [if_pos z, hbig z i hi]
    · rw [if_neg z, if_pos q0]; rfl
  · rw [if_neg (nI_ne0 (by omega) (by omega))]
    simp only [fX8_split_s43]
    rw [nI_l (by omega)]
    by_cases z : sumN c m ≤ s
    · rw [if_neg (show ¬ lN s < lN (sumN c m) from fun w => by have := (pk_lLT (by omega) (by omega)).mp w; omega)]
      obtain ⟨s1, a1, a2, a3⟩ := hnum
      refine ⟨s1, a1, a2, fun i hi => ?_⟩
      rw [a3 i hi, hbig z i hi]
      unfold shN; rw [if_pos z]
    · rw [if_pos (show lN s < lN (sumN c m) from (pk_lLT (by omega) (by omega)).mpr (by omega))]
      simp only [fX8_split_s58]
      by_cases q1 : how = 1
      · rw [if_pos (by rw [q1]; rfl)]
        obtain ⟨s1, a1, a2, a3⟩ := c_prtL n b m s hm hn hs c hc (by omega) n 0 st (by omega) (by omega) hC (fun i hi => by omega)
        rw [show sumN (prtN c m s) 0 = 0 from rfl, Nat.sub_zero, show nI 0 = 0 from rfl] at a1
        refine ⟨s1, ?_, a2, fun i hi => ?_⟩
        · simp only [fX8_split_s63, fX8_byParts, fX8_byParts_s0]
          rw [if_pos (show (0 : Int64) < lN (sumN c m) from (pk_lLT (a := 0) (by decide) (by omega)).mpr (by omega))]
          simp only [fX8_byParts_s7, a1, Option.bind_some, fX8_split_s69, fX8_split_s77]
        · rw [a3 i hi]; unfold shN; rw [if_neg z, if_neg q0, if_pos q1]
      · rw [if_neg (show ¬ nI how = 1 from fun w => q1 ((nI_eq (by omega) (b := 1) (by decide)).mp w))]
        obtain ⟨s1, a1, a2, a3⟩ := c_evL n b m s hm hn hs c hc (by omega) n 0 0 st (by
          rw [sumN_congr (g := fun _ => 0) m (fun i _ => by unfold cutN; split <;> omega)]
          rw [sumN_cut (N := 0) m (Nat.zero_le _) (fun _ _ _ => rfl)]; exact Nat.zero_le _) (by omega) (by
          have := opn_le (cutN c 0) c m
          split <;> (try split) <;> omega) hC (fun i hi => by
          rw [h0 i hi]; congr 1)
        have e0 : sumN (cutN c 0) m = 0 := by
          rw [sumN_congr (g := fun _ => 0) m (fun i _ => by unfold cutN; split <;> omega), sumN_cut (N := 0) m (Nat.zero_le _) (fun _ _ _ => rfl)]; rfl
        rw [e0, Nat.sub_zero, show nI 0 = 0 from rfl] at a1
        refine ⟨s1, ?_, a2, fun i hi => ?_⟩
        · simp only [fX8_split_s72, fX8_evenly, fX8_evenly_s0, a1, Option.bind_some, fX8_split_s77]
        · rw [a3 i hi]; unfold shN; rw [if_neg z, if_neg q0, if_neg q1]
theorem c_splitL (n b m s how : Nat) (hm : m ≤ 8) (hn : 100 ≤ n) (hh : how ≤ 2) (hs : s < 2 ^ 26) (c : Nat → Nat) (hc : ∀ i, i < m → c i < 2 ^ 26) : ∀ (j k : Nat) (st : St), k ≤ m → m - k < j → ClR st b m c → (∀ i, i < k → st.1 (b + 2) i = 0) → ∃ st1, fX8_split_L5 n b j (nI how) (nI s) (lN (sumN c k)) (nI k) st = some ((), st1) ∧ kSh b st st1 ∧ GtR st1 b m (shN how s c m) := by
  intro j
  induction j with
  | zero => intro k _ _ hj; omega
  | succ j ih =>
    intro k st hk hj hC h0
    simp only [fX8_split_L5, fX8_split_s5, hC.1]
    by_cases q : k = m
    · subst q
      rw [if_pos (nI_le (Nat.le_refl _) (by omega))]
      exact c_split0 n b k s how hm hn hh hs c hc st hC (fun i hi => h0 i hi)
    · rw [if_neg (nI_ge (by omega) (by omega))]
      have hkc := hc k (by omega)
      simp only [fX8_split_s14, fX8_split_s33, inb_nI (show k < 8 by omega) (by decide), nI_clamp (show k < 2 ^ 31 by omega), if_true, hC.2 k (by omega), nI_1]
      rw [nI_l (by omega), lN_add]
      have hp := kSh.pt b st k 0
      obtain ⟨s1, a1, a2, a3⟩ := ih (k + 1) (setI st (b + 2) k 0) (by omega) (by omega) (hC.k hp) (fun i hi => by
        by_cases z : i = k
        · subst z; rw [sI_at]
        · rw [sI_k z]; exact h0 i (by omega))
      exact ⟨s1, a1, hp.tr a2, a3⟩
theorem c_split (n b m s how : Nat) (hm : m ≤ 8) (hn : 100 ≤ n) (hh : how ≤ 2) (hs : s < 2 ^ 26) (c : Nat → Nat) (hc : ∀ i, i < m → c i < 2 ^ 26) (st : St) (hC : ClR st b m c) : ∃ st1, fX8_split n b (nI how) (nI s) st = some ((), st1) ∧ kSh b st st1 ∧ GtR st1 b m (shN how s c m) := by
  simp only [fX8_split, fX8_split_s0]
  exact c_splitL n b m s how hm hn hh hs c hc n 0 st (by omega) (by omega) hC (fun i hi => by omega)
