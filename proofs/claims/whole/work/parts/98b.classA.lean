/-! ===== the class's week: goods arrive, orders come to be known ===== -/
def R1 (st : St) (b : Nat) (stk : Nat → Nat) (slt : Nat → Nat → Nat) : Prop := (∀ s, s < 8 → st.1 (b + 1) s = nI (stk s)) ∧ (∀ s i, s < 8 → i < 6 → st.1 (b + 2) (6 * s + i) = nI (slt s i)) ∧ ∀ s, s < 8 → st.1 (b + 3) s = nI (sumN (slt s) 6)
theorem cp_arr (st : St) (b s : Nat) (sl : Nat → Nat) (e2 : ∀ i, i < 6 → st.1 (b + 2) (6 * s + i) = nI (sl i)) : (∀ i, i < 5 → va_cpy (st.1 (b + 2)) (st.1 (b + 2)) (6 * s + 1) (6 * s) 5 (6 * s + i) = nI (sl (i + 1))) ∧ ∀ k, k < 6 * s ∨ 6 * s + 5 ≤ k → va_cpy (st.1 (b + 2)) (st.1 (b + 2)) (6 * s + 1) (6 * s) 5 k = st.1 (b + 2) k := by
  refine ⟨fun i hi => ?_, fun k hk => pk_cpy_out hk⟩
  rw [pk_cpy_in (by omega) (by omega), show 6 * s + 1 + (6 * s + i - 6 * s) = 6 * s + (i + 1) by omega]
  exact e2 (i + 1) (by omega)
theorem c_arrive (n b s : Nat) (hs : s < 8) (st : St) (sk : Nat) (sl : Nat → Nat) (e1 : st.1 (b + 1) s = nI sk) (e2 : ∀ i, i < 6 → st.1 (b + 2) (6 * s + i) = nI (sl i)) (e3 : st.1 (b + 3) s = nI (sumN sl 6)) : ∃ st1, fX1_arrive n b (nI s) st = some ((), st1) ∧ st1.2 = st.2 ∧ (∀ o, o ≠ b + 1 → o ≠ b + 2 → o ≠ b + 3 → st1.1 o = st.1 o) ∧ (∀ k, k ≠ s → st1.1 (b + 1) k = st.1 (b + 1) k ∧ st1.1 (b + 3) k = st.1 (b + 3) k) ∧ (∀ k, k < 6 * s ∨ 6 * s + 6 ≤ k → st1.1 (b + 2) k = st.1 (b + 2) k) ∧ st1.1 (b + 1) s = nI (sk + sl 0) ∧ (∀ i, i < 6 → st1.1 (b + 2) (6 * s + i) = nI (if i < 5 then sl (i + 1) else 0)) ∧ st1.1 (b + 3) s = nI (sumN sl 6 - sl 0) := by
  have i1 : inb (nI s) 8 = true := inb_nI hs (by decide)
  have c1 : (nI s).toNatClampNeg = s := nI_clamp (by omega)
  have e6 : nI s * 6 = nI (6 * s) := by rw [show (6 : Int32) = nI 6 from rfl, pk_mul, Nat.mul_comm]
  have e65 : nI (6 * s) + 6 - 1 = nI (6 * s + 5) := by rw [show (6 : Int32) = nI 6 from rfl, nI_add, show 6 * s + 6 = (6 * s + 5) + 1 by omega, nI_pred]
  have c6 : (nI (6 * s)).toNatClampNeg = 6 * s := nI_clamp (by omega)
  have c61 : (nI (6 * s + 1)).toNatClampNeg = 6 * s + 1 := nI_clamp (by omega)
  have c65 : (nI (6 * s + 5)).toNatClampNeg = 6 * s + 5 := nI_clamp (by omega)
  have c5 : (5 : Int32).toNatClampNeg = 5 := rfl
  have hcp : cpok (nI (6 * s + 1)) (nI (6 * s)) 5 48 48 = true := by
    unfold cpok
    rw [c61, c6, c5]
    have n1 : ¬ nI (6 * s + 1) < 0 := nI_pos (by omega)
    have n2 : ¬ nI (6 * s) < 0 := nI_pos (by omega)
    have n3 : ¬ (5 : Int32) < 0 := by decide
    simp only [n1, n2, n3, decide_false, Bool.not_false, Bool.true_and, Bool.and_eq_true, decide_eq_true_eq]
    omega
  have hle := sumN_le (f := sl) 6 0 (by omega)
  obtain ⟨q1, q2⟩ := cp_arr st b s sl e2
  simp only [fX1_arrive, fX1_arrive_s0, e6, nI_1, inb_nI (show 6 * s < 48 by omega) (by decide), if_true, hcp, c61, c6, c5, fX1_arrive_s28, e65, inb_nI (show 6 * s + 5 < 48 by omega) (by decide), c65, fX1_arrive_s40, i1, c1, fX1_arrive_s50, fX1_arrive_s60]
  have e20 : st.1 (b + 2) (6 * s) = nI (sl 0) := e2 0 (by omega)
  have ro : ∀ (f : Nat → Int32) (o : Nat), o ≠ b + 2 → (rowI st (b + 2) f).1 o = st.1 o := fun f o ho => if_neg ho
  have ra : ∀ (f : Nat → Int32), (rowI st (b + 2) f).1 (b + 2) = f := fun f => if_pos rfl
  refine ⟨_, rfl, rfl, fun o h1 h2 h3 => ?_, fun k hk => ⟨?_, ?_⟩, fun k hk => ?_, ?_, fun i hi => ?_, ?_⟩
  · rw [sI_o h3, sI_o h1, sI_o h2, ro _ _ h2]
  · rw [sI_o (show b + 1 ≠ b + 3 by omega), sI_k hk, sI_o (show b + 1 ≠ b + 2 by omega), ro _ _ (by omega)]
  · rw [sI_k hk, sI_o (show b + 3 ≠ b + 1 by omega), sI_o (show b + 3 ≠ b + 2 by omega), ro _ _ (by omega)]
  · rw [sI_o (show b + 2 ≠ b + 3 by omega), sI_o (show b + 2 ≠ b + 1 by omega), sI_k (show k ≠ 6 * s + 5 by omega), ra]
    exact q2 k (by omega)
  · rw [sI_o (show b + 1 ≠ b + 3 by omega), sI_at, sI_o (show b + 1 ≠ b + 2 by omega), ro _ _ (by omega), e1, e20, nI_add]
  · rw [sI_o (show b + 2 ≠ b + 3 by omega), sI_o (show b + 2 ≠ b + 1 by omega)]
    by_cases h5 : i = 5
    · subst h5
      rw [sI_at]; rfl
    · rw [sI_k (show 6 * s + i ≠ 6 * s + 5 by omega), ra, if_pos (by omega)]
      exact q1 i (by omega)
  · rw [sI_at, sI_o (show b + 3 ≠ b + 1 by omega), sI_o (show b + 3 ≠ b + 2 by omega), ro _ _ (by omega), e3, e20, pk_sub hle]
theorem sltA_sum (D : WD) (s : Nat) : sumN (sltA D s) 6 = sumN (dSl D s) 6 - dSl D s 0 := by
  rw [sumN_front (dSl D s) 5]
  have : sumN (sltA D s) 6 = sumN (fun i => dSl D s (i + 1)) 5 := by
    rw [sumN, sumN_congr (g := fun i => dSl D s (i + 1)) 5 (fun i hi => by unfold sltA; rw [if_pos hi])]
    unfold sltA
    rw [if_neg (by omega)]; rfl
  rw [this]; omega
theorem c_ph1 (n b b4 : Nat) (D : WD) (hb : 53 ≤ b) (hD : PFl D) (v5 : Int64) : ∀ (j k : Nat) (st : St), k ≤ dN D → dN D - k < j → st.1 1 9 = nI (dN D) → R1 st b (mx k (stkA D) (dSk D)) (mx k (sltA D) (dSl D)) → ∃ st1, fX1_pass_L19 n b b4 j v5 (nI k) st = fX1_pass_s40 n b b4 v5 st1 ∧ st1.2 = st.2 ∧ (∀ o, o ≠ b + 1 → o ≠ b + 2 → o ≠ b + 3 → st1.1 o = st.1 o) ∧ R1 st1 b (mx (dN D) (stkA D) (dSk D)) (mx (dN D) (sltA D) (dSl D)) := by
  have hN := hD.1.1
  intro j
  induction j with
  | zero => intro k st _ hj; omega
  | succ j ih =>
    intro k st hk hj e9 hR
    simp only [fX1_pass_L19, fX1_pass_s19, e9]
    by_cases q : k = dN D
    · subst q
      rw [if_pos (Int32.le_refl _)]
      exact ⟨st, rfl, rfl, fun _ _ _ _ => rfl, hR⟩
    · rw [if_neg (nI_ge (show k < dN D by omega) (by omega))]
      obtain ⟨r1, r2, r3⟩ := hR
      have a1 := r1 k (by omega)
      rw [mx_ge (Nat.le_refl _)] at a1
      have a2 : ∀ i, i < 6 → st.1 (b + 2) (6 * k + i) = nI (dSl D k i) := fun i hi => by rw [r2 k i (by omega) hi, mx_ge (Nat.le_refl _)]
      have a3 := r3 k (by omega)
      rw [mx_ge (Nat.le_refl _)] at a3
      obtain ⟨st1, h0, h1, h2, h3, h4, h5, h6, h7⟩ := c_arrive n b k (by omega) st _ _ a1 a2 a3
      have R1' : R1 st1 b (mx (k + 1) (stkA D) (dSk D)) (mx (k + 1) (sltA D) (dSl D)) := by
        refine ⟨fun s hs => ?_, fun s i hs hi => ?_, fun s hs => ?_⟩
        · by_cases z : s = k
          · subst z; rw [h5, mx_eq]; rfl
          · rw [(h3 s z).1, mx_ne z]; exact r1 s hs
        · by_cases z : s = k
          · subst z; rw [h6 i hi, mx_eq]; rfl
          · rw [h4 _ (by omega), mx_ne z]; exact r2 s i hs hi
        · by_cases z : s = k
          · subst z; rw [h7, mx_eq, sltA_sum]
          · rw [(h3 s z).2, mx_ne z]; exact r3 s hs
      obtain ⟨st2, g0, g1, g2, g3⟩ := ih (k + 1) st1 (by omega) (by omega) (by rw [h2 1 (by omega) (by omega) (by omega)]; exact e9) R1'
      refine ⟨st2, ?_, g1.trans h1, fun o o1 o2 o3 => (g2 o o1 o2 o3).trans (h2 o o1 o2 o3), g3⟩
      simp only [fX1_pass_s28, h0, Option.bind_some, fX1_pass_s34, nI_1]
      exact g0
theorem R1.all {st : St} {b : Nat} {D : WD} (hD : PFl D) (h : R1 st b (mx (dN D) (stkA D) (dSk D)) (mx (dN D) (sltA D) (dSl D))) : R1 st b (stkA D) (sltA D) := by
  have e1 : ∀ s, s < 8 → mx (dN D) (stkA D) (dSk D) s = stkA D s := fun s hs => by
    by_cases q : s < dN D
    · rw [mx_lt q]
    · rw [mx_ge (by omega)]; unfold stkA; rw [(hD.2.2.2.1 s (by omega) hs).2.1 0]; rfl
  have e2 : ∀ s, s < 8 → mx (dN D) (sltA D) (dSl D) s = sltA D s := fun s hs => by
    by_cases q : s < dN D
    · rw [mx_lt q]
    · rw [mx_ge (by omega)]; funext i; unfold sltA; rw [(hD.2.2.2.1 s (by omega) hs).2.1 i, (hD.2.2.2.1 s (by omega) hs).2.1 (i + 1)]; split <;> rfl
  obtain ⟨r1, r2, r3⟩ := h
  exact ⟨fun s hs => by rw [r1 s hs, e1 s hs], fun s i hs hi => by rw [r2 s i hs hi, e2 s hs], fun s hs => by rw [r3 s hs, e2 s hs]⟩
/-! orders come to be known -/
theorem i4n (s u : Nat) (hu : u < 4) : nI s * 4 + nI u = nI (4 * s + u) := by rw [show (4 : Int32) = nI 4 from rfl, pk_mul, nI_add, Nat.mul_comm]
theorem dm_shop {D : WD} {s : Nat} (hs : s < dN D) (h : dKd D s = 3) : dmA D s = dDm D s := by unfold dmA; rw [if_pos ⟨hs, h⟩]
theorem dm_no {D : WD} {s : Nat} (h : dKd D s ≠ 3) : dmA D s = 0 := by unfold dmA; rw [if_neg (fun q => h q.2)]
def lrA (D : WD) (b s : Nat) (st : St) (ow : Nat) : St := setI (setI st (b + 8) (4 * s + dWk D % 4) (nI (dmA D s))) (b + 4) s (nI (ow + dmA D s))
theorem c_lr1 (n b s : Nat) (D : WD) (hD : PFl D) (st : St) (hC : CP st D) (ew : st.1 b 10 = nI (dWk D + 1)) (hs : s < dN D) (v : Int32) (hv : dKd D s = 3 → v = nI (dDm D s)) (ow : Nat) (e4 : st.1 (b + 4) s = nI ow) : fX1_learn n b (nI s) v st = fX1_learn_s57 n b (nI s) (nI (dWk D)) (lrA D b s st ow) := by
  have hN := hD.1.1
  have hw := hD.1.2.2.2
  have i1 : inb (nI s) 8 = true := inb_nI (by omega) (by decide)
  have c1 : (nI s).toNatClampNeg = s := nI_clamp (by omega)
  have i2 : inb (nI (4 * s + dWk D % 4)) 32 = true := inb_nI (by omega) (by decide)
  have c2 : (nI (4 * s + dWk D % 4)).toNatClampNeg = 4 * s + dWk D % 4 := nI_clamp (by omega)
  obtain ⟨k0, ek, hk⟩ := pshop n (nI s) st hN hC.1
  simp only [fX1_learn, fX1_learn_s0, ek, Option.bind_some, ew, nI_pred, fX1_learn_s13, i4s s (dWk D) (by omega)]
  have e44 : ∀ v, (setI st (b + 8) (4 * s + dWk D % 4) v).1 (b + 4) s = nI ow := fun v => by rw [sI_o (show b + 4 ≠ b + 8 by omega)]; exact e4
  rcases hk with ⟨rfl, h3⟩ | ⟨rfl, h3⟩
  · have k3 : dKd D s = 3 := by have := h3.2; rw [c1, hC.2.1] at this; exact this
    rw [hv k3]
    simp only [if_neg (show ¬ (1 : Int32) = 0 by decide), fX1_learn_s32, fX1_learn_s37, i2, c2, if_true, fX1_learn_s38, i1, c1, fX1_learn_s50, fX1_learn_s55, e44, nI_add]
    unfold lrA
    rw [dm_shop hs k3]
  · have k3 : dKd D s ≠ 3 := fun z => h3 ⟨st_to (by omega) hs, by rw [c1, hC.2.1]; exact z⟩
    simp only [if_true, fX1_learn_s36, fX1_learn_s37, i2, c2, fX1_learn_s38, i1, c1, fX1_learn_s54, fX1_learn_s55, e44]
    unfold lrA
    rw [dm_no k3, Int32.add_zero]
    rfl
theorem c_lr2 (n b s p g : Nat) (D : WD) (hD : PFl D) (st : St) (hC : CP st D) (hs : s < dN D) (od ow sn : Nat) (hp : p < dN D) (hps : p ≠ s) (ep : dSp D s = nI p) (hg : gN D s = g) (e9 : ∀ u, u < dWk D → dWk D ≤ u + 4 → st.1 (b + 9) (4 * s + u % 4) = nI (dOr D u s)) (e5 : st.1 (b + 5) s = nI od) (e4 : st.1 (b + 4) p = nI ow) (e8 : st.1 (b + 8) (4 * p + dWk D % 4) = nI sn) : fX1_learn_s57 n b (nI s) (nI (dWk D)) st = some ((), if dWk D < (dDl D s).toNatClampNeg + 1 then st else setI (setI (setI st (b + 5) s (nI (od + g))) (b + 4) p (nI (ow + g))) (b + 8) (4 * p + dWk D % 4) (nI (sn + g))) ∧ (dWk D < (dDl D s).toNatClampNeg + 1 → g = 0) := by
  have hN := hD.1.1
  have hw := hD.1.2.2.2
  have i1 : inb (nI s) 8 = true := inb_nI (by omega) (by decide)
  have c1 : (nI s).toNatClampNeg = s := nI_clamp (by omega)
  obtain ⟨d, hd, ed⟩ := (hD.2.1 s hs).2.2.2
  have cd : (nI d).toNatClampNeg = d := nI_clamp (by omega)
  have hs0 : s ≠ 0 := by
    intro z
    subst z
    have := ((hD.2.1 0 hs).1 rfl).2
    rw [this] at ep
    have := congrArg Int32.toInt ep
    rw [nI_toInt (by omega)] at this
    have e : (-1 : Int32).toInt = -1 := rfl
    omega
  have eg : gN D s = pend (dOr D) (dWk D) d s 0 := by unfold gN; rw [if_neg hs0, ed, cd]
  rw [ed, cd]
  have ecd : st.1 5 s = nI d := by rw [hC.2.2.2.2.1]; exact ed
  have ecp : st.1 3 s = nI p := by rw [hC.2.2.1]; exact ep
  simp only [fX1_learn_s57, i1, c1, if_true, ecd, ecp]
  have esub : nI (dWk D) - 1 - nI d = nI (dWk D) - nI (d + 1) := by
    rw [← nI_1 d, Int32.sub_eq_add_neg, Int32.sub_eq_add_neg, Int32.sub_eq_add_neg, Int32.neg_add, Int32.sub_eq_add_neg, Int32.add_assoc, Int32.add_comm (-1)]
  rw [esub]
  by_cases z : dWk D < d + 1
  · rw [if_pos (pk_sneg (by omega) z), if_pos z]
    refine ⟨rfl, fun _ => ?_⟩
    rw [← hg, eg]
    unfold pend
    rw [if_neg (by omega)]
  · rw [pk_sub (show d + 1 ≤ dWk D by omega), if_neg (nI_pos (by omega)), if_neg z]
    refine ⟨?_, fun h => absurd h z⟩
    have hgv : dOr D (dWk D - (d + 1)) s = g := by
      rw [← hg, eg]
      unfold pend
      rw [if_pos (by omega)]
      congr 1
    have eo := e9 (dWk D - (d + 1)) (by omega) (by omega)
    rw [hgv] at eo
    have ip : inb (nI p) 8 = true := inb_nI (by omega) (by decide)
    have cp : (nI p).toNatClampNeg = p := nI_clamp (by omega)
    have i3 : inb (nI (4 * s + (dWk D - (d + 1)) % 4)) 32 = true := inb_nI (by omega) (by decide)
    have c3 : (nI (4 * s + (dWk D - (d + 1)) % 4)).toNatClampNeg = 4 * s + (dWk D - (d + 1)) % 4 := nI_clamp (by omega)
    have i4 : inb (nI (4 * p + dWk D % 4)) 32 = true := inb_nI (by omega) (by decide)
    have c4 : (nI (4 * p + dWk D % 4)).toNatClampNeg = 4 * p + dWk D % 4 := nI_clamp (by omega)
    simp only [fX1_learn_s83, phas, hC.1, b1_pos (st_to (show dN D < 2 ^ 31 by omega) hp), Option.bind_some, fX1_learn_s89, if_neg (show ¬ (1 : Int32) = 0 by decide), fX1_learn_s93, i4s s (dWk D - (d + 1)) (by omega), i3, c3, if_true, i1, c1, eo, e5, nI_add, fX1_learn_s119, ip, cp, fX1_learn_s131, i4s p (dWk D) (by omega), i4, c4, fX1_learn_s150]
    rw [sI_o (show b + 4 ≠ b + 5 by omega), e4, sI_o (show b + 8 ≠ b + 4 by omega), sI_o (show b + 8 ≠ b + 5 by omega), e8, nI_add, nI_add]
theorem c_learn (n b s : Nat) (D : WD) (hb : 53 ≤ b) (hD : PFl D) (st : St) (hC : CP st D) (ew : st.1 b 10 = nI (dWk D + 1)) (hs : s < dN D) (v : Int32) (hv : dKd D s = 3 → v = nI (dDm D s)) (ow od sn : Nat → Nat) (e4 : ∀ x, x < 8 → st.1 (b + 4) x = nI (ow x)) (e5 : ∀ x, x < 8 → st.1 (b + 5) x = nI (od x)) (e8 : ∀ x, x < s → st.1 (b + 8) (4 * x + dWk D % 4) = nI (sn x)) (e9 : ∀ u x, x < 8 → u < dWk D → dWk D ≤ u + 4 → st.1 (b + 9) (4 * x + u % 4) = nI (dOr D u x)) : ∃ st1, fX1_learn n b (nI s) v st = some ((), st1) ∧ st1.2 = st.2 ∧ (∀ o, o ≠ b + 4 → o ≠ b + 5 → o ≠ b + 8 → st1.1 o = st.1 o) ∧ (∀ x, x < 8 → st1.1 (b + 4) x = nI (ow x + (if x = s then dmA D s else 0) + cgA D x s)) ∧ (∀ x, x < 8 → st1.1 (b + 5) x = nI (od x + (if x = s then gN D s else 0))) ∧ (∀ x, x < s + 1 → st1.1 (b + 8) (4 * x + dWk D % 4) = nI ((if x = s then dmA D s else sn x) + cgA D x s)) ∧ ∀ x r, x < 8 → r < 4 → (r ≠ dWk D % 4 ∨ dN D ≤ x) → st1.1 (b + 8) (4 * x + r) = st.1 (b + 8) (4 * x + r) := by
  have hN := hD.1.1
  have hw := hD.1.2.2.2
  rw [c_lr1 n b s D hD st hC ew hs v hv (ow s) (e4 s (by omega))]
  have r4 : ∀ x, (lrA D b s st (ow s)).1 (b + 4) x = if x = s then nI (ow s + dmA D s) else st.1 (b + 4) x := by
    intro x
    unfold lrA
    by_cases z : x = s
    · subst z; rw [sI_at, if_pos rfl]
    · rw [sI_k z, sI_o (show b + 4 ≠ b + 8 by omega), if_neg z]
  have r8 : ∀ y, (lrA D b s st (ow s)).1 (b + 8) y = if y = 4 * s + dWk D % 4 then nI (dmA D s) else st.1 (b + 8) y := by
    intro y
    unfold lrA
    rw [sI_o (show b + 8 ≠ b + 4 by omega)]
    by_cases z : y = 4 * s + dWk D % 4
    · subst z; rw [sI_at, if_pos rfl]
    · rw [sI_k z, if_neg z]
  have ro : ∀ o, o ≠ b + 4 → o ≠ b + 8 → (lrA D b s st (ow s)).1 o = st.1 o := by
    intro o h1 h2
    unfold lrA
    rw [sI_o h1, sI_o h2]
  have hC1 : CP (lrA D b s st (ow s)) D := hC.k (fun o ho => ro o (by omega) (by omega))
  by_cases hs0 : s = 0
  · subst hs0
    have hcg : ∀ x, cgA D x 0 = 0 := fun x => by unfold cgA; rw [if_neg (fun q => q.2.1 rfl)]
    have hg0 : gN D 0 = 0 := by unfold gN; rw [if_pos rfl]
    refine ⟨lrA D b 0 st (ow 0), ?_, rfl, fun o h1 h2 h3 => ro o h1 h3, fun x hx => ?_, fun x hx => ?_, fun x hx => ?_, fun x r hx hr hrw => ?_⟩
    · obtain ⟨d, hd, ed⟩ := (hD.2.1 0 hs).2.2.2
      have es := ((hD.2.1 0 hs).1 rfl).2
      have a5 : (lrA D b 0 st (ow 0)).1 5 0 = nI d := by rw [hC1.2.2.2.2.1]; exact ed
      have a3 : (lrA D b 0 st (ow 0)).1 3 0 = -1 := by rw [hC1.2.2.1]; exact es
      have i1 : inb (nI 0) 8 = true := rfl
      have c1 : (nI 0).toNatClampNeg = 0 := rfl
      simp only [fX1_learn_s57, i1, c1, if_true, a5, a3]
      split
      · rfl
      · simp only [fX1_learn_s83, phas, b1_neg (fun w : (0 : Int32) ≤ -1 ∧ -1 < (lrA D b 0 st (ow 0)).1 1 9 => absurd w.1 (by decide)), Option.bind_some, fX1_learn_s89, if_true]
        rfl
    · rw [r4, hcg, e4 x hx]
      split
      · rename_i z; subst z; rfl
      · rfl
    · rw [ro _ (by omega) (by omega), e5 x hx, hg0]; split <;> rfl
    · have : x = 0 := by omega
      subst this
      rw [r8, if_pos rfl, if_pos rfl, hcg]; rfl
    · rw [r8, if_neg (by omega)]
  · obtain ⟨p, hp, ep, ecp, hk⟩ := w_sup hD hs hs0
    have hp8 : p < 8 := by omega
    have hcg : ∀ x, x < 8 → cgA D x s = if x = p then gN D s else 0 := by
      intro x hx
      unfold cgA
      by_cases z : x = p
      · subst z; rw [if_pos ⟨hs, hs0, ep⟩, if_pos rfl]
      · rw [if_neg z, if_neg (fun q => z ((nI_eq (by omega) (by omega)).mp (q.2.2.symm.trans ep)))]
    have a4 : (lrA D b s st (ow s)).1 (b + 4) p = nI (ow p) := by rw [r4, if_neg (by omega)]; exact e4 p hp8
    have a8 : (lrA D b s st (ow s)).1 (b + 8) (4 * p + dWk D % 4) = nI (sn p) := by rw [r8, if_neg (by omega)]; exact e8 p hp
    have a5 : (lrA D b s st (ow s)).1 (b + 5) s = nI (od s) := by rw [ro _ (by omega) (by omega)]; exact e5 s (by omega)
    obtain ⟨h1, h2⟩ := c_lr2 n b s p (gN D s) D hD (lrA D b s st (ow s)) hC1 hs (od s) (ow p) (sn p) (by omega) (by omega) ep rfl (fun u hu hw => by rw [ro _ (by omega) (by omega)]; exact e9 u s (by omega) hu hw) a5 a4 a8
    rw [h1]
    by_cases z : dWk D < (dDl D s).toNatClampNeg + 1
    · have g0 := h2 z
      rw [if_pos z]
      refine ⟨_, rfl, rfl, fun o h1 h2 h3 => ro o h1 h3, fun x hx => ?_, fun x hx => ?_, fun x hx => ?_, fun x r hx hr hrw => ?_⟩
      · rw [r4, hcg x hx, g0, e4 x hx]
        split
        · rename_i z; subst z; split <;> rfl
        · split <;> rfl
      · rw [ro _ (by omega) (by omega), e5 x hx, g0]; split <;> rfl
      · rw [r8, hcg x (by omega), g0]
        by_cases y : x = s
        · subst y; rw [if_pos rfl, if_pos rfl]; split <;> rfl
        · rw [if_neg (by omega), if_neg y, e8 x (by omega)]; split <;> rfl
      · rw [r8, if_neg (by omega)]
    · rw [if_neg z]
      refine ⟨_, rfl, rfl, fun o h1 h2 h3 => ?_, fun x hx => ?_, fun x hx => ?_, fun x hx => ?_, fun x r hx hr hrw => ?_⟩
      · rw [sI_o h3, sI_o h1, sI_o h2, ro o h1 h3]
      · rw [sI_o (show b + 4 ≠ b + 8 by omega), hcg x hx]
        by_cases y : x = p
        · subst y; rw [sI_at, if_neg (show ¬ x = s by omega), if_pos rfl]; rfl
        · rw [sI_k y, sI_o (show b + 4 ≠ b + 5 by omega), r4, if_neg y, e4 x hx]
          split
          · rename_i z; subst z; rfl
          · rfl
      · rw [sI_o (show b + 5 ≠ b + 8 by omega), sI_o (show b + 5 ≠ b + 4 by omega)]
        by_cases y : x = s
        · subst y; rw [sI_at, if_pos rfl]
        · rw [sI_k y, ro _ (by omega) (by omega), e5 x hx, if_neg y]; rfl
      · rw [hcg x (by omega)]
        by_cases y : x = p
        · subst y; rw [sI_at, if_neg (show ¬ x = s by omega), if_pos rfl]
        · rw [sI_k (show 4 * x + dWk D % 4 ≠ 4 * p + dWk D % 4 by omega), sI_o (show b + 8 ≠ b + 4 by omega), sI_o (show b + 8 ≠ b + 5 by omega), r8, if_neg y]
          by_cases y2 : x = s
          · subst y2; rw [if_pos rfl, if_pos rfl]; rfl
          · rw [if_neg (by omega), if_neg y2, e8 x (by omega)]; rfl
      · rw [sI_k (show 4 * x + r ≠ 4 * p + dWk D % 4 by omega), sI_o (show b + 8 ≠ b + 4 by omega), sI_o (show b + 8 ≠ b + 5 by omega), r8, if_neg (by omega)]
def R2 (st : St) (b : Nat) (D : WD) (k : Nat) : Prop := (∀ s, s < 8 → st.1 (b + 4) s = nI (ow0 D s + (if s < k then dmA D s else 0) + sumN (cgA D s) k)) ∧ (∀ c, c < 8 → st.1 (b + 5) c = nI (dOd D c + (if c < k then gN D c else 0))) ∧ ∀ s, s < k → st.1 (b + 8) (4 * s + dWk D % 4) = nI (dmA D s + sumN (cgA D s) k)
theorem cg_self {D : WD} (hD : PFl D) {s : Nat} (hs : s < 8) : ∀ k, k ≤ s + 1 → sumN (cgA D s) k = 0 := by
  intro k
  induction k with
  | zero => intro _; rfl
  | succ k ih =>
    intro hk
    rw [sumN, ih (by omega)]
    unfold cgA
    rw [if_neg (fun q => by have := (w_cu hD hs q).1; omega)]
theorem c_ph2 (n b b4 : Nat) (D : WD) (hb : 53 ≤ b) (h4 : b4 < 53) (hD : PFl D) (v5 : Int64) : ∀ (j k : Nat) (st : St), k ≤ dN D → dN D - k < j → CP st D → st.1 b 10 = nI (dWk D + 1) → (∀ s, s < dN D → dKd D s = 3 → st.1 b4 s = nI (dDm D s)) → (∀ u x, x < 8 → u < dWk D → dWk D ≤ u + 4 → st.1 (b + 9) (4 * x + u % 4) = nI (dOr D u x)) → R2 st b D k → ∃ st1, fX1_pass_L43 n b b4 j v5 (nI k) st = fX1_pass_s70 n b b4 v5 st1 ∧ st1.2 = st.2 ∧ (∀ o, o ≠ b + 4 → o ≠ b + 5 → o ≠ b + 8 → st1.1 o = st.1 o) ∧ R2 st1 b D (dN D) ∧ ∀ x r, x < 8 → r < 4 → (r ≠ dWk D % 4 ∨ dN D ≤ x) → st1.1 (b + 8) (4 * x + r) = st.1 (b + 8) (4 * x + r) := by
  have hN := hD.1.1
  intro j
  induction j with
  | zero => intro k st _ hj; omega
  | succ j ih =>
    intro k st hk hj hC ew hdm h9 hR
    simp only [fX1_pass_L43, fX1_pass_s43, hC.1]
    by_cases q : k = dN D
    · subst q
      rw [if_pos (Int32.le_refl _)]
      exact ⟨st, rfl, rfl, fun _ _ _ _ => rfl, hR, fun _ _ _ _ _ => rfl⟩
    · rw [if_neg (nI_ge (show k < dN D by omega) (by omega))]
      obtain ⟨r4, r5, r8⟩ := hR
      obtain ⟨st1, g0, g1, g2, g4, g5, g8, gr⟩ := c_learn n b k D hb hD st hC ew (by omega) (st.1 b4 k) (hdm k (by omega)) _ _ _ r4 r5 r8 h9
      have hR1 : R2 st1 b D (k + 1) := by
        refine ⟨fun s hs => ?_, fun c hc => ?_, fun s hs => ?_⟩
        · rw [g4 s hs, sumN]
          congr 1
          by_cases z : s = k
          · subst z; rw [if_pos rfl, if_neg (by omega), if_pos (by omega)]; omega
          · rw [if_neg z]
            by_cases y : s < k
            · rw [if_pos y, if_pos (by omega)]; omega
            · rw [if_neg y, if_neg (by omega)]; omega
        · rw [g5 c hc]
          congr 1
          by_cases z : c = k
          · subst z; rw [if_pos rfl, if_neg (by omega), if_pos (by omega)]; omega
          · rw [if_neg z]
            by_cases y : c < k
            · rw [if_pos y, if_pos (by omega)]; omega
            · rw [if_neg y, if_neg (by omega)]
        · rw [g8 s (by omega), sumN]
          congr 1
          by_cases z : s = k
          · subst z; rw [if_pos rfl, cg_self hD (by omega) s (by omega)]; omega
          · rw [if_neg z]; omega
      obtain ⟨st2, k0, k1, k2, k3, k4⟩ := ih (k + 1) st1 (by omega) (by omega) (hC.k (fun o ho => g2 o (by omega) (by omega) (by omega))) (by rw [g2 b (by omega) (by omega) (by omega)]; exact ew) (fun s hs h3 => by rw [g2 b4 (by omega) (by omega) (by omega)]; exact hdm s hs h3) (fun u x hx hu hw => by rw [g2 (b + 9) (by omega) (by omega) (by omega)]; exact h9 u x hx hu hw) hR1
      refine ⟨st2, ?_, k1.trans g1, fun o o1 o2 o3 => (k2 o o1 o2 o3).trans (g2 o o1 o2 o3), k3, fun x r hx hr hrw => (k4 x r hx hr hrw).trans (gr x r hx hr hrw)⟩
      simp only [fX1_pass_s52, inb_nI (show k < 8 by omega) (by decide), nI_clamp (show k < 2 ^ 31 by omega), if_true, g0, Option.bind_some, fX1_pass_s64, nI_1]
      exact k0
theorem cg_all {D : WD} (hD : PFl D) {s : Nat} : sumN (cgA D s) (dN D) = sumN (cgA D s) 8 := (sumN_cut 8 hD.1.1 (fun c h1 h2 => by unfold cgA; rw [if_neg (fun q => by have := q.1; omega)])).symm
theorem ow_eq {D : WD} (s : Nat) : ow0 D s + dmA D s + sumN (cgA D s) 8 = owA D s := by
  unfold ow0 owA osA
  have : sumN (fun c => if cu D s c then odA D c else 0) 8 = sumN (fun c => if cu D s c then dOd D c else 0) 8 + sumN (cgA D s) 8 := by
    have : ∀ k, sumN (fun c => if cu D s c then odA D c else 0) k = sumN (fun c => if cu D s c then dOd D c else 0) k + sumN (cgA D s) k := by
      intro k
      induction k with
      | zero => rfl
      | succ k ih =>
        rw [sumN, sumN, sumN, ih]
        unfold cgA odA
        split <;> omega
    exact this 8
  omega
theorem R2.all {st : St} {b : Nat} {D : WD} (hD : PFl D) (h : R2 st b D (dN D)) : (∀ s, s < 8 → st.1 (b + 4) s = nI (owA D s)) ∧ (∀ c, c < 8 → st.1 (b + 5) c = nI (odA D c)) ∧ ∀ s, s < dN D → st.1 (b + 8) (4 * s + dWk D % 4) = nI (snA D s) := by
  obtain ⟨r4, r5, r8⟩ := h
  refine ⟨fun s hs => ?_, fun c hc => ?_, fun s hs => ?_⟩
  · rw [r4 s hs, cg_all hD, ← ow_eq]
    by_cases q : s < dN D
    · rw [if_pos q]
    · rw [if_neg q]; unfold dmA; rw [if_neg (fun z => q z.1)]
  · rw [r5 c hc]
    unfold odA
    by_cases q : c < dN D
    · rw [if_pos q]
    · rw [if_neg q, w_gN hD (by omega) hc]
  · rw [r8 s hs, cg_all hD]; rfl
