/-! ===== chances: sums of demands ===== -/
def cvT (w f : Nat → Nat) (x d : Nat) : Nat := if d ≤ x then w d * f (x - d) else 0
def convN (w f : Nat → Nat) (x : Nat) : Nat := sumN (cvT w f x) 5
def chN (w : Nat → Nat) : Nat → Nat → Nat
  | 0, x => if x = 0 then 1 else 0
  | k + 1, x => convN w (chN w k) x
theorem conv_cut {w f : Nat → Nat} {x d : Nat} (h : x < d) (hd : d ≤ 5) : sumN (cvT w f x) d = convN w f x :=
  (sumN_cut (N := d) 5 hd (fun s h1 _ => by unfold cvT; rw [if_neg (by omega)])).symm
theorem c_add50 (n L b : Nat) (K28 : Int32 → Int32 → St → Option (Unit × St)) (K39 : Int32 → Int32 → Int32 → St → Option (Unit × St)) (v1 v3 : Int32) (w f : Nat → Nat) (x : Nat) (hx : x < L) (hL : L ≤ 25) (st : St) (hw : ∀ d, d < 5 → st.1 38 d = nI (w d) ∧ w d ≤ 9) (hf : ∀ z, z ≤ x → st.2 b z = lN (f z)) : ∀ (j d : Nat), d ≤ 5 → 5 - d < j → fX3_addUp_L50 n K28 K39 L b j v1 v3 (nI x) (lN (sumN (cvT w f x) d)) (nI d) st = K39 v1 v3 (nI x + (-1)) (setJ st b x (lN (convN w f x))) := by
  intro j
  induction j with
  | zero => intro d _ h; omega
  | succ j ih =>
    intro d hd hj
    simp only [fX3_addUp_L50, fX3_addUp_s50, fX3_addUp_s56]
    have e90 : ∀ v, fX3_addUp_s90 n K28 K39 L b v1 v3 (nI x) v st = K39 v1 v3 (nI x + (-1)) (setJ st b x v) := by
      intro v
      simp only [fX3_addUp_s90, fX3_addUp_s96, inb_nI hx (by omega), nI_clamp (show x < 2 ^ 31 by omega), if_true]
    by_cases h5 : d = 5
    · subst h5
      rw [if_pos (show (4 : Int32) < nI 5 by decide), e90]
      rfl
    · rw [if_neg (show ¬ (4 : Int32) < nI d from nI_nlt (a := 4) (by omega) (by decide))]
      by_cases hxd : x < d
      · rw [if_pos (nI_lt hxd (by omega)), e90, conv_cut hxd hd]
      · rw [if_neg (nI_nlt (by omega) (by omega))]
        obtain ⟨w1, w2⟩ := hw d (by omega)
        simp only [fX3_addUp_s63, pk_sub (show d ≤ x by omega), inb_nI (show d < 5 by omega) (by decide), inb_nI (show x - d < L by omega) (by omega), nI_clamp (show d < 2 ^ 31 by omega), nI_clamp (show x - d < 2 ^ 31 by omega), if_true, w1, hf (x - d) (by omega)]
        rw [nI_l (by omega), lN_mul, lN_add, nI_1]
        have : sumN (cvT w f x) d + w d * f (x - d) = sumN (cvT w f x) (d + 1) := by
          rw [sumN]; congr 1; unfold cvT; rw [if_pos (by omega)]
        rw [this]
        exact ih (d + 1) (by omega) (by omega)
theorem c_add39 (n L b : Nat) (hn : 100 ≤ n) (K28 : Int32 → Int32 → St → Option (Unit × St)) (v1 v3 : Int32) (w f : Nat → Nat) (hL : L ≤ 25) : ∀ (j k : Nat) (st : St), k ≤ L → k < j → (∀ d, d < 5 → st.1 38 d = nI (w d) ∧ w d ≤ 9) → (∀ z, z < k → st.2 b z = lN (f z)) → (∀ z, k ≤ z → z < L → st.2 b z = lN (convN w f z)) → ∃ st1, fX3_addUp_L39 n K28 L b j v1 v3 (nI k - 1) st = K28 v1 (v3 + 1) st1 ∧ st1.1 = st.1 ∧ (∀ o, o ≠ b → st1.2 o = st.2 o) ∧ ∀ z, z < L → st1.2 b z = lN (convN w f z) := by
  intro j
  induction j with
  | zero => intro k st _ h; omega
  | succ j ih =>
    intro k st hk hj hw h1 h2
    simp only [fX3_addUp_L39, fX3_addUp_s39]
    cases k with
    | zero =>
      rw [if_pos (show nI 0 - 1 < 0 by decide)]
      exact ⟨st, rfl, rfl, fun _ _ => rfl, fun z hz => h2 z (by omega) hz⟩
    | succ k =>
      rw [nI_pred, if_neg (nI_pos (by omega))]
      simp only [fX3_addUp_s44]
      have e := c_add50 n L b K28 (fX3_addUp_L39 n K28 L b j) v1 v3 w f k (by omega) hL st hw (fun z hz => h1 z (by omega)) n 0 (by omega) (by omega)
      rw [show lN (sumN (cvT w f k) 0) = 0 from rfl, show nI 0 = 0 from rfl] at e
      rw [e, show nI k + (-1) = nI k - 1 from by rw [Int32.sub_eq_add_neg]]
      obtain ⟨s1, g1, g2, g3, g4⟩ := ih k (setJ st b k (lN (convN w f k))) (by omega) (by omega) hw (fun z hz => by rw [sJ_k (by omega)]; exact h1 z (by omega)) (fun z hz hzL => by
        by_cases q : z = k
        · subst q; rw [sJ_at]
        · rw [sJ_k q]; exact h2 z (by omega) hzL)
      exact ⟨s1, g1, g2, fun o ho => by rw [g3 o ho, sJ_o ho], g4⟩
theorem c_add28 (n L b : Nat) (hn : 100 ≤ n) (w : Nat → Nat) (m : Nat) (hm : m < 100) (hL : L ≤ 25) : ∀ (j i : Nat) (st : St), i ≤ m → m - i < j → (∀ d, d < 5 → st.1 38 d = nI (w d) ∧ w d ≤ 9) → (∀ z, z < L → st.2 b z = lN (chN w i z)) → ∃ st1, fX3_addUp_L28 n L b j (nI m) (nI i) st = some ((), st1) ∧ st1.1 = st.1 ∧ (∀ o, o ≠ b → st1.2 o = st.2 o) ∧ ∀ z, z < L → st1.2 b z = lN (chN w m z) := by
  intro j
  induction j with
  | zero => intro i st _ h; omega
  | succ j ih =>
    intro i st hi hj hw h1
    simp only [fX3_addUp_L28, fX3_addUp_s28]
    by_cases q : i = m
    · subst q
      rw [if_pos (nI_le (Nat.le_refl _) (by omega))]
      exact ⟨st, rfl, rfl, fun _ _ => rfl, h1⟩
    · rw [if_neg (nI_ge (by omega) (by omega))]
      simp only [fX3_addUp_s33]
      obtain ⟨s1, g1, g2, g3, g4⟩ := c_add39 n L b hn (fX3_addUp_L28 n L b j) (nI m) (nI i) w (chN w i) hL n L st (Nat.le_refl _) (by omega) hw h1 (fun z hz1 hz2 => by omega)
      rw [show (Int32.ofNat L) = nI L from rfl, g1, nI_1]
      obtain ⟨s2, k1, k2, k3, k4⟩ := ih (i + 1) s1 (by omega) (by omega) (by rw [g2]; exact hw) g4
      exact ⟨s2, k1, k2.trans g2, fun o ho => (k3 o ho).trans (g3 o ho), k4⟩
theorem c_add2 (n L b : Nat) (hn : 100 ≤ n) (w : Nat → Nat) (m : Nat) (hm : m < 100) (hL : L ≤ 25) : ∀ (j x : Nat) (st : St), x ≤ L → L - x < j → (∀ d, d < 5 → st.1 38 d = nI (w d) ∧ w d ≤ 9) → (∀ z, z < x → st.2 b z = lN (chN w 0 z)) → ∃ st1, fX3_addUp_L2 n L b j (nI m) (nI x) st = some ((), st1) ∧ st1.1 = st.1 ∧ (∀ o, o ≠ b → st1.2 o = st.2 o) ∧ ∀ z, z < L → st1.2 b z = lN (chN w m z) := by
  intro j
  induction j with
  | zero => intro x st _ h; omega
  | succ j ih =>
    intro x st hx hj hw h1
    simp only [fX3_addUp_L2, fX3_addUp_s2]
    rw [show (Int32.ofNat L) = nI L from rfl]
    by_cases q : x = L
    · subst q
      rw [if_pos (nI_le (Nat.le_refl _) (by omega))]
      simp only [fX3_addUp_s26]
      exact c_add28 n x b hn w m hm hL n 0 st (by omega) (by omega) hw h1
    · rw [if_neg (nI_ge (by omega) (by omega))]
      have e : fX3_addUp_s8 n (fX3_addUp_L2 n L b j) L b (nI m) (nI x) st = fX3_addUp_L2 n L b j (nI m) (nI (x + 1)) (setJ st b x (lN (chN w 0 x))) := by
        simp only [fX3_addUp_s8, fX3_addUp_s14, fX3_addUp_s18, fX3_addUp_s19, fX3_addUp_s20, inb_nI (show x < L by omega) (by omega), nI_clamp (show x < 2 ^ 31 by omega), if_true, nI_1]
        by_cases z : x = 0
        · subst z; rfl
        · rw [if_neg (nI_ne0 (by omega) (by omega)), chN, if_neg z]; rfl
      rw [e]
      obtain ⟨s1, g1, g2, g3, g4⟩ := ih (x + 1) (setJ st b x (lN (chN w 0 x))) (by omega) (by omega) hw (fun z hz => by
        by_cases q : z = x
        · subst q; rw [sJ_at]
        · rw [sJ_k q]; exact h1 z (by omega))
      exact ⟨s1, g1, g2, fun o ho => by rw [g3 o ho, sJ_o ho], g4⟩
theorem c_addUp (n L b : Nat) (hn : 100 ≤ n) (w : Nat → Nat) (m : Nat) (hm : m < 100) (hL : L ≤ 25) (st : St) (hw : ∀ d, d < 5 → st.1 38 d = nI (w d) ∧ w d ≤ 9) : ∃ st1, fX3_addUp n L b (nI m) st = some ((), st1) ∧ st1.1 = st.1 ∧ (∀ o, o ≠ b → st1.2 o = st.2 o) ∧ ∀ z, z < L → st1.2 b z = lN (chN w m z) := by
  simp only [fX3_addUp, fX3_addUp_s0]
  exact c_add2 n L b hn w m hm hL n 0 st (by omega) (by omega) hw (fun z hz => by omega)
/-! the reference's -/
theorem i25 (c x : Nat) : (25 : Int32) * nI c + nI x = nI (25 * c + x) := by rw [show (25 : Int32) = nI 25 from rfl, pk_mul, nI_add]
/-- what else is in the row, and all other rows but these two -/
def kCh (c : Nat) (st st1 : St) : Prop := st1.1 = st.1 ∧ (∀ o, o ≠ 166 → o ≠ 167 → st1.2 o = st.2 o) ∧ ∀ q, ¬ (25 * c ≤ q ∧ q < 25 * c + 25) → st1.2 166 q = st.2 166 q
theorem kCh.rf (c : Nat) (st : St) : kCh c st st := ⟨rfl, fun _ _ _ => rfl, fun _ _ => rfl⟩
theorem kCh.tr {c : Nat} {a b d : St} (h1 : kCh c a b) (h2 : kCh c b d) : kCh c a d := ⟨h2.1.trans h1.1, fun o p q => (h2.2.1 o p q).trans (h1.2.1 o p q), fun q hq => (h2.2.2 q hq).trans (h1.2.2 q hq)⟩
theorem kCh.mv (c : Nat) (st : St) (x : Nat) (v : Int64) : kCh c st (setJ st 167 x v) := ⟨rfl, fun o _ q => by rw [sJ_o q], fun q _ => by rw [sJ_o (by decide)]⟩
theorem kCh.pt (c : Nat) (st : St) (x : Nat) (hx : x < 25) (v : Int64) : kCh c st (setJ st 166 (25 * c + x) v) := ⟨rfl, fun o p _ => by rw [sJ_o p], fun q hq => by rw [sJ_k (by omega)]⟩
theorem m_ch62 (n c : Nat) (hc : c ≤ 1) (K36 : Int32 → Int32 → Int32 → St → Option (Unit × St)) (K44 : Int32 → Int32 → Int32 → Int32 → St → Option (Unit × St)) (v2 v3 : Int32) (w f : Nat → Nat) (x : Nat) (hx : x < 25) : ∀ (j d : Nat) (st : St), d ≤ 5 → 5 - d < j → (∀ d, d < 5 → st.1 165 d = nI (w d) ∧ w d ≤ 9) → (∀ z, z < 25 → st.2 166 (25 * c + z) = lN (f z)) → st.2 167 x = lN (sumN (cvT w f x) d) → ∃ st1, fX11_findChances_L62 n K36 K44 j (nI c) v2 v3 (nI x) (nI d) st = K44 (nI c) v2 v3 (nI (x + 1)) st1 ∧ kCh c st st1 ∧ st1.2 166 = st.2 166 ∧ st1.2 167 x = lN (convN w f x) ∧ ∀ z, z ≠ x → st1.2 167 z = st.2 167 z := by
  intro j
  induction j with
  | zero => intro d st _ h; omega
  | succ j ih =>
    intro d st hd hj hw hf hv
    simp only [fX11_findChances_L62, fX11_findChances_s62, fX11_findChances_s68]
    have e115 : ∀ s, fX11_findChances_s115 n K36 K44 (nI c) v2 v3 (nI x) s = K44 (nI c) v2 v3 (nI (x + 1)) s := by
      intro s
      simp only [fX11_findChances_s115, nI_1]
    by_cases h5 : d = 5
    · subst h5
      rw [if_pos (show (5 : Int32) ≤ nI 5 by decide), e115]
      exact ⟨st, rfl, kCh.rf c st, rfl, hv, fun _ _ => rfl⟩
    · rw [if_neg (show ¬ (5 : Int32) ≤ nI d from nI_ge (b := 5) (by omega) (by decide))]
      by_cases hxd : x < d
      · rw [if_pos (nI_lt hxd (by omega)), e115]
        rw [conv_cut hxd hd] at hv
        exact ⟨st, rfl, kCh.rf c st, rfl, hv, fun _ _ => rfl⟩
      · rw [if_neg (nI_nlt (by omega) (by omega))]
        obtain ⟨w1, w2⟩ := hw d (by omega)
        have e1 : (25 : Int32) * nI c + nI x - nI d = nI (25 * c + (x - d)) := by rw [i25, pk_sub (by omega)]; congr 1; omega
        simp only [fX11_findChances_s75, fX11_findChances_s109, e1, inb_nI (show x < 25 by omega) (by decide), inb_nI (show d < 5 by omega) (by decide), inb_nI (show 25 * c + (x - d) < 50 by omega) (by decide), nI_clamp (show x < 2 ^ 31 by omega), nI_clamp (show d < 2 ^ 31 by omega), nI_clamp (show 25 * c + (x - d) < 2 ^ 31 by omega), if_true, w1, hf (x - d) (by omega), hv]
        rw [nI_l (by omega), lN_mul, lN_add, nI_1]
        have : sumN (cvT w f x) d + w d * f (x - d) = sumN (cvT w f x) (d + 1) := by
          rw [sumN]; congr 1; unfold cvT; rw [if_pos (by omega)]
        rw [this]
        obtain ⟨s1, g1, g2, g3, g4, g5⟩ := ih (d + 1) (setJ st 167 x (lN (sumN (cvT w f x) (d + 1)))) (by omega) (by omega) hw (fun z hz => by rw [sJ_o (by decide)]; exact hf z hz) sJ_at
        exact ⟨s1, g1, (kCh.mv c st x _).tr g2, by rw [g3, sJ_o (by decide)], g4, fun z hz => by rw [g5 z hz, sJ_k hz]⟩
theorem m_ch44 (n c : Nat) (hn : 100 ≤ n) (hc : c ≤ 1) (K36 : Int32 → Int32 → Int32 → St → Option (Unit × St)) (v2 v3 : Int32) (w f : Nat → Nat) : ∀ (j x : Nat) (st : St), x ≤ 25 → 25 - x < j → (∀ d, d < 5 → st.1 165 d = nI (w d) ∧ w d ≤ 9) → (∀ z, z < 25 → st.2 166 (25 * c + z) = lN (f z)) → (∀ z, z < x → st.2 167 z = lN (convN w f z)) → ∃ st1, fX11_findChances_L44 n K36 j (nI c) v2 v3 (nI x) st = fX11_findChances_s121 n K36 (nI c) v2 v3 st1 ∧ kCh c st st1 ∧ ∀ z, z < 25 → st1.2 167 z = lN (convN w f z) := by
  intro j
  induction j with
  | zero => intro x st _ h; omega
  | succ j ih =>
    intro x st hx hj hw hf hv
    simp only [fX11_findChances_L44, fX11_findChances_s44]
    by_cases q : x = 25
    · subst q
      rw [if_pos (show (25 : Int32) ≤ nI 25 by decide)]
      exact ⟨st, rfl, kCh.rf c st, hv⟩
    · rw [if_neg (show ¬ (25 : Int32) ≤ nI x from nI_ge (b := 25) (by omega) (by decide))]
      simp only [fX11_findChances_s51, fX11_findChances_s59, inb_nI (show x < 25 by omega) (by decide), nI_clamp (show x < 2 ^ 31 by omega), if_true]
      obtain ⟨s1, g1, g2, g3, g4, g5⟩ := m_ch62 n c hc K36 (fX11_findChances_L44 n K36 j) v2 v3 w f x (by omega) n 0 (setJ st 167 x 0) (by omega) (by omega) hw (fun z hz => by rw [sJ_o (by decide)]; exact hf z hz) (by rw [sJ_at]; rfl)
      rw [show nI 0 = 0 from rfl] at g1
      rw [g1]
      have k1 := (kCh.mv c st x 0).tr g2
      obtain ⟨s2, h1, h2, h3⟩ := ih (x + 1) s1 (by omega) (by omega) (by rw [k1.1]; exact hw) (fun z hz => by rw [g3, sJ_o (by decide)]; exact hf z hz) (fun z hz => by
        by_cases p : z = x
        · subst p; exact g4
        · rw [g5 z p, sJ_k p]; exact hv z (by omega))
      exact ⟨s2, h1, k1.tr h2, h3⟩
theorem m_ch124 (n c : Nat) (hc : c ≤ 1) (K36 : Int32 → Int32 → Int32 → St → Option (Unit × St)) (v2 v3 : Int32) (g : Nat → Nat) : ∀ (j x : Nat) (st : St), x ≤ 25 → 25 - x < j → (∀ z, z < 25 → st.2 167 z = lN (g z)) → (∀ z, z < x → st.2 166 (25 * c + z) = lN (g z)) → ∃ st1, fX11_findChances_L124 n K36 j (nI c) v2 v3 (nI x) st = K36 (nI c) v2 (v3 + 1) st1 ∧ kCh c st st1 ∧ ∀ z, z < 25 → st1.2 166 (25 * c + z) = lN (g z) := by
  intro j
  induction j with
  | zero => intro x st _ h; omega
  | succ j ih =>
    intro x st hx hj hv hf
    simp only [fX11_findChances_L124, fX11_findChances_s124]
    by_cases q : x = 25
    · subst q
      rw [if_pos (show (25 : Int32) ≤ nI 25 by decide)]
      exact ⟨st, rfl, kCh.rf c st, hf⟩
    · rw [if_neg (show ¬ (25 : Int32) ≤ nI x from nI_ge (b := 25) (by omega) (by decide))]
      simp only [fX11_findChances_s131, fX11_findChances_s150, i25, inb_nI (show x < 25 by omega) (by decide), inb_nI (show 25 * c + x < 50 by omega) (by decide), nI_clamp (show x < 2 ^ 31 by omega), nI_clamp (show 25 * c + x < 2 ^ 31 by omega), if_true, hv x (by omega), nI_1]
      obtain ⟨s1, g1, g2, g3⟩ := ih (x + 1) (setJ st 166 (25 * c + x) (lN (g x))) (by omega) (by omega) (fun z hz => by rw [sJ_o (by decide)]; exact hv z hz) (fun z hz => by
        by_cases p : z = x
        · subst p; rw [sJ_at]
        · rw [sJ_k (by omega)]; exact hf z (by omega))
      exact ⟨s1, g1, (kCh.pt c st x (by omega) _).tr g2, g3⟩
theorem m_ch36 (n c : Nat) (hn : 100 ≤ n) (hc : c ≤ 1) (w : Nat → Nat) (m : Nat) (hm : m < 100) : ∀ (j i : Nat) (st : St), i ≤ m → m - i < j → (∀ d, d < 5 → st.1 165 d = nI (w d) ∧ w d ≤ 9) → (∀ z, z < 25 → st.2 166 (25 * c + z) = lN (chN w i z)) → ∃ st1, fX11_findChances_L36 n j (nI c) (nI m) (nI i) st = some ((), st1) ∧ kCh c st st1 ∧ ∀ z, z < 25 → st1.2 166 (25 * c + z) = lN (chN w m z) := by
  intro j
  induction j with
  | zero => intro i st _ h; omega
  | succ j ih =>
    intro i st hi hj hw hf
    simp only [fX11_findChances_L36, fX11_findChances_s36]
    by_cases q : i = m
    · subst q
      rw [if_pos (nI_le (Nat.le_refl _) (by omega))]
      exact ⟨st, rfl, kCh.rf c st, hf⟩
    · rw [if_neg (nI_ge (by omega) (by omega))]
      simp only [fX11_findChances_s41]
      obtain ⟨s1, g1, g2, g3⟩ := m_ch44 n c hn hc (fX11_findChances_L36 n j) (nI m) (nI i) w (chN w i) n 0 st (by omega) (by omega) hw hf (fun z hz => by omega)
      rw [show nI 0 = 0 from rfl] at g1
      rw [g1]
      simp only [fX11_findChances_s121]
      obtain ⟨s2, h1, h2, h3⟩ := m_ch124 n c hc (fX11_findChances_L36 n j) (nI m) (nI i) (convN w (chN w i)) n 0 s1 (by omega) (by omega) g3 (fun z hz => by omega)
      rw [show nI 0 = 0 from rfl] at h1
      rw [h1, nI_1]
      obtain ⟨s3, k1, k2, k3⟩ := ih (i + 1) s2 (by omega) (by omega) (by rw [h2.1, g2.1]; exact hw) h3
      exact ⟨s3, k1, (g2.tr h2).tr k2, k3⟩
theorem m_ch2 (n c : Nat) (hn : 100 ≤ n) (hc : c ≤ 1) (w : Nat → Nat) (m : Nat) (hm : m < 100) : ∀ (j x : Nat) (st : St), x ≤ 25 → 25 - x < j → (∀ d, d < 5 → st.1 165 d = nI (w d) ∧ w d ≤ 9) → (∀ z, z < x → st.2 166 (25 * c + z) = lN (chN w 0 z)) → ∃ st1, fX11_findChances_L2 n j (nI c) (nI m) (nI x) st = some ((), st1) ∧ kCh c st st1 ∧ ∀ z, z < 25 → st1.2 166 (25 * c + z) = lN (chN w m z) := by
  intro j
  induction j with
  | zero => intro x st _ h; omega
  | succ j ih =>
    intro x st hx hj hw hf
    simp only [fX11_findChances_L2, fX11_findChances_s2]
    by_cases q : x = 25
    · subst q
      rw [if_pos (show (25 : Int32) ≤ nI 25 by decide)]
      simp only [fX11_findChances_s34]
      exact m_ch36 n c hn hc w m hm n 0 st (by omega) (by omega) hw hf
    · rw [if_neg (show ¬ (25 : Int32) ≤ nI x from nI_ge (b := 25) (by omega) (by decide))]
      have e : fX11_findChances_s8 n (fX11_findChances_L2 n j) (nI c) (nI m) (nI x) st = fX11_findChances_L2 n j (nI c) (nI m) (nI (x + 1)) (setJ st 166 (25 * c + x) (lN (chN w 0 x))) := by
        simp only [fX11_findChances_s8, fX11_findChances_s22, fX11_findChances_s26, fX11_findChances_s27, fX11_findChances_s28, i25, inb_nI (show 25 * c + x < 50 by omega) (by decide), nI_clamp (show 25 * c + x < 2 ^ 31 by omega), if_true, nI_1]
        by_cases z : x = 0
        · subst z; rfl
        · rw [if_neg (nI_ne0 (by omega) (by omega)), chN, if_neg z]; rfl
      rw [e]
      obtain ⟨s1, g1, g2, g3⟩ := ih (x + 1) (setJ st 166 (25 * c + x) (lN (chN w 0 x))) (by omega) (by omega) hw (fun z hz => by
        by_cases p : z = x
        · subst p; rw [sJ_at]
        · rw [sJ_k (by omega)]; exact hf z (by omega))
      exact ⟨s1, g1, (kCh.pt c st x (by omega) _).tr g2, g3⟩
theorem m_chances (n c : Nat) (hn : 100 ≤ n) (hc : c ≤ 1) (w : Nat → Nat) (m : Nat) (hm : m < 100) (st : St) (hw : ∀ d, d < 5 → st.1 165 d = nI (w d) ∧ w d ≤ 9) : ∃ st1, fX11_findChances n (nI c) (nI m) st = some ((), st1) ∧ kCh c st st1 ∧ ∀ z, z < 25 → st1.2 166 (25 * c + z) = lN (chN w m z) := by
  simp only [fX11_findChances, fX11_findChances_s0]
  exact m_ch2 n c hn hc w m hm n 0 st (by omega) (by omega) hw (fun z hz => by omega)
/-- the weights, as numbers -/
theorem lev_w {st : St} (hI : Inv st) : ∃ w : Nat → Nat, (∀ d, d < 5 → st.1 38 d = nI (w d) ∧ w d ≤ 9) ∧ ∀ d, d < 5 → st.1 165 d = nI (w d) ∧ w d ≤ 9 := by
  obtain ⟨N, R, hP, hR, hT, hF, hTo, hL, hV, hW, hLe⟩ := id hI
  refine ⟨fun d => (st.1 38 d).toNatClampNeg, fun d hd => ?_, fun d hd => ?_⟩
  · obtain ⟨-, v, hv, e⟩ := hV d hd
    show st.1 38 d = nI (st.1 38 d).toNatClampNeg ∧ (st.1 38 d).toNatClampNeg ≤ 9
    rw [e, nI_clamp (by omega)]; exact ⟨rfl, hv⟩
  · obtain ⟨e1, v, hv, e⟩ := hV d hd
    show st.1 165 d = nI (st.1 38 d).toNatClampNeg ∧ (st.1 38 d).toNatClampNeg ≤ 9
    rw [e1, e, nI_clamp (by omega)]; exact ⟨rfl, hv⟩
theorem SPchance (n : Nat) (hn : 100 ≤ n) : SP_chance n Inv := by
  intro k x st hI
  obtain ⟨w, hw1, hw2⟩ := lev_w hI
  suffices hq : ∃ r st1, fX10_chance n k x st = some (r, st1) ∧ (Ess st st1 → ∃ st2, fX11_chance n k x st1 = some (r, st2)) by
    obtain ⟨r, st1, h1, h2⟩ := hq
    have hE := Ess.of (zX10_chance n k x st _ h1) rfl rfl
    have hI1 := hI.ess hE
    obtain ⟨st2, h3⟩ := h2 hE
    exact ⟨r, st1, st2, h1, h3, hI1.ess (Ess.of (zX11_chance n k x st1 _ h3) rfl rfl)⟩
  by_cases hk : 1 ≤ k ∧ k ≤ 6
  · obtain ⟨i, hi, rfl⟩ := nI_of2 (M := 6) (n := 6) rfl (le_of_nlt32.mpr (Int32.le_trans (by decide) hk.1)) hk.2
    by_cases hx : 0 ≤ x
    · obtain ⟨s1, e1, e2, e3, e4⟩ := c_addUp n 25 39 hn w i (by omega) (by decide) st hw1
      have hc : fX10_chance n (nI i) x st = fX10_chance_s33 n x s1 := by
        simp only [fX10_chance, fX10_chance_s0, pw, Option.bind_some, b1_pos hk, fX10_chance_s7, fX10_chance_s10, if_pos hx, fX10_chance_s18, e1]; rfl
      have hm : ∀ s, Ess st s → ∃ s2, fX11_chance n (nI i) x s = fX11_chance_s26 n x s2 ∧ ∀ z, z < 25 → s2.2 166 z = lN (chN w i z) := by
        intro s hE
        obtain ⟨s2, g1, g2, g3⟩ := m_chances n 0 hn (by decide) w i (by omega) s (by rw [show s.1 165 = st.1 165 from hE.1.1 165 (by decide)]; exact hw2)
        refine ⟨s2, ?_, fun z hz => by have := g3 z hz; rwa [show 25 * 0 + z = z by omega] at this⟩
        rw [show nI 0 = 0 from rfl] at g1
        simp only [fX11_chance, fX11_chance_s0, pinl (lo := 1) (hi := 6) (lo' := 1) (hi' := 6) (by decide) (by decide), Option.bind_some, b1_pos hk, fX11_chance_s9, fX11_chance_s12, if_pos hx, fX11_chance_s20, g1]; rfl
      by_cases h25 : 25 ≤ x
      · refine ⟨0, s1, ?_, fun hE => ?_⟩
        · rw [hc]; simp only [fX10_chance_s33, if_pos h25, fX10_chance_s57, fX10_chance_s58]
        · obtain ⟨s2, g1, -⟩ := hm s1 hE
          exact ⟨s2, by rw [g1]; simp only [fX11_chance_s26, if_pos h25, fX11_chance_s41, fX11_chance_s42]⟩
      · obtain ⟨z, hz, rfl⟩ := nI_of (le_of_nlt32.mpr hx)
        have hz25 : z < 25 := by
          have : ¬ 25 ≤ z := fun q => h25 ((nI_leI (a := 25) (by decide) hz).mpr q)
          omega
        refine ⟨lN (chN w i z), s1, ?_, fun hE => ?_⟩
        · rw [hc]; simp only [fX10_chance_s33, if_neg h25, fX10_chance_s45, fX10_chance_s58, inb_nI hz25 (by decide), nI_clamp hz, if_true, e4 z hz25]
        · obtain ⟨s2, g1, g2⟩ := hm s1 hE
          exact ⟨s2, by rw [g1]; simp only [fX11_chance_s26, if_neg h25, fX11_chance_s32, fX11_chance_s42, inb_nI (show z < 50 by omega) (by decide), nI_clamp hz, if_true, g2 z hz25]⟩
    · refine ⟨-9223372036854775808, st, ?_, fun _ => ⟨st, ?_⟩⟩
      · simp only [fX10_chance, fX10_chance_s0, pw, Option.bind_some, b1_pos hk, fX10_chance_s7, fX10_chance_s10, if_neg hx, fX10_chance_s14]; rfl
      · simp only [fX11_chance, fX11_chance_s0, pinl (lo := 1) (hi := 6) (lo' := 1) (hi' := 6) (by decide) (by decide), Option.bind_some, b1_pos hk, fX11_chance_s9, fX11_chance_s12, if_neg hx, fX11_chance_s16]; rfl
  · refine ⟨-9223372036854775808, st, ?_, fun _ => ⟨st, ?_⟩⟩
    · simp only [fX10_chance, fX10_chance_s0, pw, Option.bind_some, b1_neg hk, fX10_chance_s7, fX10_chance_s14]; rfl
    · simp only [fX11_chance, fX11_chance_s0, pinl (lo := 1) (hi := 6) (lo' := 1) (hi' := 6) (by decide) (by decide), Option.bind_some, b1_neg hk, fX11_chance_s9, fX11_chance_s16]; rfl
