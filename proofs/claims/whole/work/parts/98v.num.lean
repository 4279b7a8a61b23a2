/-! ===== rule: numbers, codes ===== -/
def RelL : List Int32 → List Int32 → Prop
  | [], [] => True
  | a :: l, b :: m => stepR a b ∧ RelL l m
  | _, _ => False
theorem RelL.app : ∀ {l m l' m' : List Int32}, RelL l m → RelL l' m' → RelL (l ++ l') (m ++ m') := by
  intro l
  induction l with
  | nil =>
    intro m l' m' h g
    cases m with
    | nil => exact g
    | cons b m => exact absurd h (by simp [RelL])
  | cons a l ih =>
    intro m l' m' h g
    cases m with
    | nil => exact absurd h (by simp [RelL])
    | cons b m => exact ⟨h.1, ih h.2 g⟩
theorem RelL.len : ∀ {l m : List Int32}, RelL l m → m.length = l.length := by
  intro l
  induction l with
  | nil =>
    intro m h
    cases m with
    | nil => rfl
    | cons b m => exact absurd h (by simp [RelL])
  | cons a l ih =>
    intro m h
    cases m with
    | nil => exact absurd h (by simp [RelL])
    | cons b m => rw [List.length_cons, List.length_cons, ih h.2]
theorem RelL.at : ∀ {l m : List Int32}, RelL l m → ∀ i, i < l.length → stepR (l.getD i 0) (m.getD i 0) := by
  intro l
  induction l with
  | nil => intro m _ i hi; exact absurd hi (by simp)
  | cons a l ih =>
    intro m h i hi
    cases m with
    | nil => exact absurd h (by simp [RelL])
    | cons b m =>
      cases i with
      | zero => exact h.1
      | succ i => exact ih h.2 i (by simpa using hi)
def dpL : Nat → List Int32 → Option Nat
  | d, [] => some d
  | d, x :: l => if -8 < x then (if d < 32 then dpL (d + 1) l else none) else (if 2 ≤ d then dpL (d - 1) l else none)
theorem dpL_app : ∀ (l l' : List Int32) (d : Nat), dpL d (l ++ l') = (dpL d l).bind (fun e => dpL e l') := by
  intro l
  induction l with
  | nil => intro l' d; rfl
  | cons x l ih =>
    intro l' d
    rw [List.cons_append, dpL, dpL]
    split
    · split
      · exact ih l' _
      · rfl
    · split
      · exact ih l' _
      · rfl
theorem deep_dpL (f : Nat → Int32) (l : List Int32) (h : ∀ i, i < l.length → f i = l.getD i 0) : deepOf f l.length = dpL 0 l := by
  have key : ∀ k, k ≤ l.length → deepOf f k = dpL 0 (l.take k) := by
    intro k
    induction k with
    | zero => intro _; rw [List.take_zero]; rfl
    | succ k ih =>
      intro hk
      have e : l[k]? = some (l.getD k 0) := by rw [List.getD_eq_getElem?_getD, List.getElem?_eq_getElem (by omega)]; rfl
      rw [List.take_succ, e, deepOf, ih (by omega), dpL_app, h k (by omega)]
      cases dpL 0 (l.take k) with
      | none => rfl
      | some d => rfl
  rw [key l.length (Nat.le_refl _), List.take_length]
section
variable {T R n : Nat} {B Q : Nat → Int32}
abbrev dgt (B : Nat → Int32) (T k : Nat) : Prop := 48 ≤ bt B T k ∧ bt B T k ≤ 57
def numV (B : Nat → Int32) (T k : Nat) : Nat → Nat
  | 0 => 0
  | i + 1 => 10 * numV B T k i + ((bt B T (k + i)).toNatClampNeg - 48)
theorem dgt_nat (hB : BOK B T) {k : Nat} (h : dgt B T k) : k < T ∧ ∃ v, 48 ≤ v ∧ v ≤ 57 ∧ bt B T k = nI v := by
  have hk : k < T := by
    by_cases q : k < T
    · exact q
    · have h1 := h.1
      rw [bt_ge (by omega)] at h1
      exact absurd h1 (by decide)
  refine ⟨hk, ?_⟩
  obtain ⟨v, hv, e⟩ := hB.2 k hk
  have e' : bt B T k = nI v := by rw [bt_lt hk]; exact e
  have h1 := h.1
  have h2 := h.2
  rw [e', Int32.le_iff_toInt_le, nI_toInt (by omega)] at h1 h2
  have a1 : (48 : Int32).toInt = 48 := rfl
  have a2 : (57 : Int32).toInt = 57 := rfl
  exact ⟨v, by omega, by omega, e'⟩
theorem numV_lt (hB : BOK B T) (k : Nat) : ∀ i, (∀ t, t < i → dgt B T (k + t)) → numV B T k i < 10 ^ i := by
  intro i
  induction i with
  | zero => intro _; show 0 < 1; decide
  | succ i ih =>
    intro h
    have h1 := ih (fun t ht => h t (by omega))
    obtain ⟨-, v, v1, v2, e⟩ := dgt_nat hB (h i (by omega))
    rw [numV, e, nI_clamp (by omega), Nat.pow_succ]
    omega
theorem num_ex (B : Nat → Int32) (T k : Nat) : ∃ m, m ≤ 4 ∧ (∀ i, i < m → dgt B T (k + i)) ∧ (m = 4 ∨ ¬ dgt B T (k + m)) := by
  by_cases h : ∃ m, m < 4 ∧ ¬ dgt B T (k + m)
  · obtain ⟨m, hm, hl⟩ := pk_least (fun m => m < 4 ∧ ¬ dgt B T (k + m)) h
    exact ⟨m, by omega, fun i hi => Classical.byContradiction fun q => hl i hi ⟨by omega, q⟩, Or.inr hm.2⟩
  · exact ⟨4, by omega, fun i hi => Classical.byContradiction fun q => h ⟨i, hi, q⟩, Or.inl rfl⟩
theorem c_num (hB : BOK B T) (k m : Nat) (C : List Int32) (hm : m ≤ 4) (hd : ∀ i, i < m → dgt B T (k + i)) (he : m = 4 ∨ ¬ dgt B T (k + m)) (hl : C.length < 120) (hk : k + m ≤ 120) : ∀ (d i : Nat) (c : St), i + d = m → CS T B c (k + i) C → ∀ j, d < j → ∃ c1, fX9_readNumber_L4 n j (nI (numV B T k i)) (nI i) c = some ((), c1) ∧ CS T B c1 (k + m) (C ++ [nI (numV B T k m)]) := by
  intro d
  induction d with
  | zero =>
    intro i c hi hC j hj
    have e : i = m := by omega
    subst e
    obtain ⟨q, rfl⟩ : ∃ q, j = q + 1 := ⟨j - 1, by omega⟩
    obtain ⟨c1, g0, g1⟩ := c_emit n (k + i) (nI (numV B T k i)) c C hC hl
    have e50 : fX9_readNumber_s50 n (nI (numV B T k i)) c = some ((), c1) := by simp only [fX9_readNumber_s50, g0, Option.bind_some, fX9_readNumber_s55]
    refine ⟨c1, ?_, g1⟩
    simp only [fX9_readNumber_L4, fX9_readNumber_s4]
    rcases he with he | he
    · rw [he, if_pos (show (4 : Int32) ≤ nI 4 by decide)]; rw [he] at e50; exact e50
    · by_cases z : i = 4
      · rw [z, if_pos (show (4 : Int32) ≤ nI 4 by decide)]; rw [z] at e50; exact e50
      · rw [if_neg (show ¬ (4 : Int32) ≤ nI i from nI_ge (b := 4) (by omega) (by decide))]
        simp only [fX9_readNumber_s9, c_isDigit n (k + i) c hB.1 hC.1 hk, Option.bind_some, fX9_readNumber_s13, if_neg he, if_true]
        exact e50
  | succ d ih =>
    intro i c hi hC j hj
    obtain ⟨q, rfl⟩ : ∃ q, j = q + 1 := ⟨j - 1, by omega⟩
    have hdi := hd i (by omega)
    obtain ⟨hkT, v, v1, v2, ev⟩ := dgt_nat hB hdi
    have eB : c.1 16 (k + i) = nI v := by rw [hC.1.2.2 (k + i) hkT, ← bt_lt (B := B) hkT]; exact ev
    simp only [fX9_readNumber_L4, fX9_readNumber_s4, if_neg (show ¬ (4 : Int32) ≤ nI i from nI_ge (b := 4) (by omega) (by decide)), fX9_readNumber_s9, c_isDigit n (k + i) c hB.1 hC.1 (by omega), Option.bind_some, fX9_readNumber_s13, if_pos hdi, if_neg (show ¬ (1 : Int32) = 0 by decide), fX9_readNumber_s16, hC.1.2.1, inb_nI (show k + i < 120 by have := hB.1; omega) (by decide), nI_clamp (show k + i < 2 ^ 31 by omega), if_true, eB, fX9_readNumber_s44, nI_1]
    have en : nI (numV B T k i) * 10 + nI v - 48 = nI (numV B T k (i + 1)) := by
      rw [show (10 : Int32) = nI 10 from rfl, show (48 : Int32) = nI 48 from rfl, pk_mul, nI_add, pk_sub (by omega), numV, ev, nI_clamp (by omega)]
      congr 1; omega
    rw [en]
    exact ih (i + 1) (setI c 15 3 (nI (k + i + 1))) (by omega) (hC.at) q (by omega)
theorem m_num (hB : BOK B T) (hR : R < 12) (k m : Nat) (S : List Int32) (o : Nat) (D : List Int32) (hm : m ≤ 4) (hd : ∀ i, i < m → dgt B T (k + i)) (he : m = 4 ∨ ¬ dgt B T (k + m)) (hl : D.length < 120) (hk : k + m ≤ 120) (r : St) (h : RS T R B Q r S o D) : ∃ r1, RS T R B Q r1 S o (D ++ [nI (numV B T k m)]) ∧ ∀ (d i : Nat), i + d = m → ∀ j, d < j → fX11_operand_L25 n j (nI k) (nI (numV B T k i)) (nI (k + i)) r = some (nI (k + m), r1) := by
  obtain ⟨r1, g0, g1⟩ := m_puts n (nI (numV B T k m)) r S o D hR h hl
  refine ⟨r1, g1, ?_⟩
  have e73 : fX11_operand_s73 n (nI (numV B T k m)) (nI (k + m)) r = some (nI (k + m), r1) := by simp only [fX11_operand_s73, g0, Option.bind_some, fX11_operand_s78]
  have hin : ∀ i, k + i ≤ 120 → fX11_in n (bt B T (k + i)).toInt64 48 57 r = some (b1 (dgt B T (k + i)), r) := fun i _ => pinl (lo := 48) (hi := 57) (lo' := 48) (hi' := 57) (by decide) (by decide) n _ r
  intro d
  induction d with
  | zero =>
    intro i hi j hj
    have e : i = m := by omega
    subst e
    obtain ⟨q, rfl⟩ : ∃ q, j = q + 1 := ⟨j - 1, by omega⟩
    simp only [fX11_operand_L25, fX11_operand_s25, h.by (n := n) hB.1 (show k + i ≤ 200 by omega), Option.bind_some, fX11_operand_s31, hin i hk, fX11_operand_s41]
    by_cases z : dgt B T (k + i)
    · have h4 : i = 4 := he.resolve_right (fun w => w z)
      rw [b1_pos z, if_neg (show ¬ (1 : Int32) = 0 by decide)]
      simp only [fX11_operand_s44]
      rw [show nI k + 4 = nI (k + i) from by rw [show (4 : Int32) = nI 4 from rfl, nI_add, h4], if_pos (Int32.le_refl _)]
      exact e73
    · rw [b1_neg z, if_pos rfl]; exact e73
  | succ d ih =>
    intro i hi j hj
    obtain ⟨q, rfl⟩ : ∃ q, j = q + 1 := ⟨j - 1, by omega⟩
    have hdi := hd i (by omega)
    obtain ⟨hkT, v, v1, v2, ev⟩ := dgt_nat hB hdi
    simp only [fX11_operand_L25, fX11_operand_s25, h.by (n := n) hB.1 (show k + i ≤ 200 by omega), Option.bind_some, fX11_operand_s31, hin i (by omega), fX11_operand_s41, b1_pos hdi, if_neg (show ¬ (1 : Int32) = 0 by decide), fX11_operand_s44]
    rw [show nI k + 4 = nI (k + 4) from by rw [show (4 : Int32) = nI 4 from rfl, nI_add], if_neg (nI_ge (show k + i < k + 4 by omega) (by omega))]
    simp only [fX11_operand_s52, h.by (n := n) hB.1 (show k + i ≤ 200 by omega), Option.bind_some, fX11_operand_s62, ev, nI_1]
    have en : 10 * nI (numV B T k i) + nI v - 48 = nI (numV B T k (i + 1)) := by
      rw [show (10 : Int32) = nI 10 from rfl, show (48 : Int32) = nI 48 from rfl, pk_mul, nI_add, pk_sub (by omega), numV, ev, nI_clamp (by omega)]
      congr 1; omega
    rw [en]
    exact ih (i + 1) (by omega) q (by omega)
end
