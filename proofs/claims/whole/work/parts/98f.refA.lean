/-! ===== the reference's week: goods arrive, orders come to be known ===== -/
def MP (st : St) (D : WD) : Prop := st.1 130 0 = nI (dN D) ∧ st.1 131 = dKd D ∧ st.1 132 = dSp D ∧ st.1 133 = dWy D ∧ st.1 134 = dDl D ∧ st.1 130 10 = nI (dH D)
theorem MP.k {st st1 : St} {D : WD} (h : MP st D) (k : ∀ o, 130 ≤ o → o < 135 → st1.1 o = st.1 o) : MP st1 D := by
  unfold MP at h ⊢
  rw [k 130 (by omega) (by omega), k 131 (by omega) (by omega), k 132 (by omega) (by omega), k 133 (by omega) (by omega), k 134 (by omega) (by omega)]
  exact h
theorem m_arr35 (n s : Nat) (hs : s < 8) (K4 : Int64 → Int32 → St → Option (Int32 × St)) (v1 : Int64) (sl : Nat → Nat) : ∀ (j i : Nat) (st : St), 1 ≤ i → i ≤ 6 → 6 - i < j → (∀ t, t < 6 → st.2 143 (7 * s + t + 1) = lN (if t + 1 < i then sl (t + 1) else sl t)) → ∃ st1, fX11_goesBy_L35 n K4 j v1 (nI s) (nI i) st = fX11_goesBy_s74 n K4 v1 (nI s) st1 ∧ kJ1 143 st st1 ∧ (∀ k, k < 7 * s + 1 ∨ 7 * s + 7 ≤ k → st1.2 143 k = st.2 143 k) ∧ ∀ t, t < 5 → st1.2 143 (7 * s + t + 1) = lN (sl (t + 1)) := by
  intro j
  induction j with
  | zero => intro i st _ _ hj; omega
  | succ j ih =>
    intro i st h1 h6 hj hr
    simp only [fX11_goesBy_L35, fX11_goesBy_s35]
    by_cases q : i = 6
    · subst q
      rw [if_pos (show (6 : Int32) ≤ nI 6 by decide)]
      exact ⟨st, rfl, kJ1.rf _ _, fun _ _ => rfl, fun t ht => by rw [hr t (by omega), if_pos (by omega)]⟩
    · rw [if_neg (show ¬ (6 : Int32) ≤ nI i from nI_ge (b := 6) (by omega) (by decide))]
      have a1 := hr i (by omega)
      rw [if_neg (by omega)] at a1
      simp only [fX11_goesBy_s42, i7mul, nI_1, inb_nI (show 7 * s + i < 56 by omega) (by decide), inb_nI (show 7 * s + i + 1 < 56 by omega) (by decide), nI_clamp (show 7 * s + i < 2 ^ 31 by omega), nI_clamp (show 7 * s + i + 1 < 2 ^ 31 by omega), if_true, a1, fX11_goesBy_s68]
      obtain ⟨st1, k0, k1, k2, k3⟩ := ih (i + 1) (setJ st 143 (7 * s + i) (lN (sl i))) (by omega) (by omega) (by omega) (fun t ht => by
        by_cases z : t + 1 = i
        · rw [show 7 * s + t + 1 = 7 * s + i by omega, sJ_at, if_pos (by omega), z]
        · rw [sJ_k (by omega), hr t ht]
          by_cases y : t + 1 < i
          · rw [if_pos y, if_pos (by omega)]
          · rw [if_neg y, if_neg (by omega)])
      exact ⟨st1, k0, (kJ1.pt 143 st _ _).tr k1, fun k hk => by rw [k2 k hk, sJ_k (by omega)], k3⟩
def M1 (st : St) (stk : Nat → Nat) (slt : Nat → Nat → Nat) : Prop := (∀ s, s < 8 → st.2 141 s = lN (stk s)) ∧ ∀ s i, s < 8 → i < 6 → st.2 143 (7 * s + i + 1) = lN (slt s i)
theorem m_ph1 (n : Nat) (hn : 200 ≤ n) (D : WD) (hD : PFl D) (v1 : Int64) : ∀ (j k : Nat) (st : St), k ≤ dN D → dN D - k < j → MP st D → M1 st (mx k (stkA D) (dSk D)) (mx k (sltA D) (dSl D)) → (∀ s, s < k → st.2 147 s = 0) → ∃ st1, fX11_goesBy_L4 n j v1 (nI k) st = fX11_goesBy_s100 n v1 st1 ∧ st1.1 = st.1 ∧ (∀ o, o ≠ 141 → o ≠ 143 → o ≠ 147 → st1.2 o = st.2 o) ∧ M1 st1 (mx (dN D) (stkA D) (dSk D)) (mx (dN D) (sltA D) (dSl D)) ∧ (∀ s, s < dN D → st1.2 147 s = 0) ∧ ∀ s, dN D ≤ s → st1.2 147 s = st.2 147 s := by
  have hN := hD.1.1
  intro j
  induction j with
  | zero => intro k st _ hj; omega
  | succ j ih =>
    intro k st hk hj hP hM h7
    simp only [fX11_goesBy_L4, fX11_goesBy_s4, hP.1]
    by_cases q : k = dN D
    · subst q
      rw [if_pos (Int32.le_refl _)]
      exact ⟨st, rfl, rfl, fun _ _ _ _ => rfl, hM, h7, fun _ _ => rfl⟩
    · rw [if_neg (nI_ge (show k < dN D by omega) (by omega))]
      have hk8 : k < 8 := by omega
      have i1 : inb (nI k) 8 = true := inb_nI hk8 (by decide)
      have c1 : (nI k).toNatClampNeg = k := nI_clamp (by omega)
      obtain ⟨m1, m2⟩ := hM
      have a1 := m1 k hk8
      rw [mx_ge (Nat.le_refl _)] at a1
      have a2 : ∀ i, i < 6 → st.2 143 (7 * k + i + 1) = lN (dSl D k i) := fun i hi => by rw [m2 k i hk8 hi, mx_ge (Nat.le_refl _)]
      have e71 : (7 : Int32) * nI k + 1 = nI (7 * k + 1) := by rw [show (7 : Int32) = nI 7 from rfl, pk_mul, nI_1]
      have e76 : (7 : Int32) * nI k + 6 = nI (7 * k + 6) := by rw [show (7 : Int32) = nI 7 from rfl, show (6 : Int32) = nI 6 from rfl, pk_mul, nI_add]
      have a20 := a2 0 (by omega)
      simp only [fX11_goesBy_s12, i1, c1, e71, inb_nI (show 7 * k + 1 < 56 by omega) (by decide), nI_clamp (show 7 * k + 1 < 2 ^ 31 by omega), if_true, a1, show st.2 143 (7 * k + 1) = lN (dSl D k 0) from a20, lN_add, fX11_goesBy_s32]
      obtain ⟨st1, k0, k1, k2, k3⟩ := m_arr35 n k hk8 (fX11_goesBy_L4 n j) v1 (dSl D k) n 1 (setJ st 141 k (lN (dSk D k + dSl D k 0))) (by omega) (by omega) (by omega) (fun t ht => by rw [sJ_o (by decide), a2 t ht, if_neg (by omega)])
      rw [show nI 1 = 1 from rfl] at k0
      rw [k0]
      simp only [fX11_goesBy_s74, e76, inb_nI (show 7 * k + 6 < 56 by omega) (by decide), nI_clamp (show 7 * k + 6 < 2 ^ 31 by omega), if_true, fX11_goesBy_s87, i1, c1, fX11_goesBy_s94, nI_1]
      have M' : M1 (setJ (setJ st1 143 (7 * k + 6) 0) 147 k 0) (mx (k + 1) (stkA D) (dSk D)) (mx (k + 1) (sltA D) (dSl D)) := by
        refine ⟨fun s hs => ?_, fun s i hs hi => ?_⟩
        · rw [sJ_o (by decide), sJ_o (by decide), k1.2 141 (by decide)]
          by_cases z : s = k
          · subst z; rw [sJ_at, mx_eq]; rfl
          · rw [sJ_k z, mx_ne z]; exact m1 s hs
        · rw [sJ_o (show (143 : Nat) ≠ 147 by decide)]
          by_cases z : s = k
          · subst z
            rw [mx_eq]
            unfold sltA
            by_cases y : i = 5
            · subst y; rw [show 7 * s + 5 + 1 = 7 * s + 6 by omega, sJ_at, if_neg (by omega)]; rfl
            · rw [sJ_k (by omega), if_pos (by omega)]; exact k3 i (by omega)
          · rw [sJ_k (by omega), k2 _ (by omega), sJ_o (by decide), mx_ne z]; exact m2 s i hs hi
      obtain ⟨st2, g0, g1, g2, g3, g4, g5⟩ := ih (k + 1) _ (by omega) (by omega) (hP.k (fun o _ _ => by rw [sJ_1, sJ_1, k1.1, sJ_1])) M' (fun s hs => by
        by_cases z : s = k
        · subst z; rw [sJ_at]
        · rw [sJ_k z, sJ_o (by decide), k1.2 147 (by decide), sJ_o (by decide)]; exact h7 s (by omega))
      refine ⟨st2, g0, by rw [g1, sJ_1, sJ_1, k1.1, sJ_1], fun o o1 o2 o3 => by rw [g2 o o1 o2 o3, sJ_o o3, sJ_o o2, k1.2 o o2, sJ_o o1], g3, g4, fun s hs => by rw [g5 s hs, sJ_k (by omega), sJ_o (by decide), k1.2 147 (by decide), sJ_o (by decide)]⟩
theorem M1.all {st : St} {D : WD} (hD : PFl D) (h : M1 st (mx (dN D) (stkA D) (dSk D)) (mx (dN D) (sltA D) (dSl D))) : M1 st (stkA D) (sltA D) := by
  have e1 : ∀ s, s < 8 → mx (dN D) (stkA D) (dSk D) s = stkA D s := fun s hs => by
    by_cases q : s < dN D
    · rw [mx_lt q]
    · rw [mx_ge (by omega)]; unfold stkA; rw [(hD.2.2.2.1 s (by omega) hs).2.1 0]; rfl
  have e2 : ∀ s, s < 8 → mx (dN D) (sltA D) (dSl D) s = sltA D s := fun s hs => by
    by_cases q : s < dN D
    · rw [mx_lt q]
    · rw [mx_ge (by omega)]; funext i; unfold sltA; rw [(hD.2.2.2.1 s (by omega) hs).2.1 i, (hD.2.2.2.1 s (by omega) hs).2.1 (i + 1)]; split <;> rfl
  exact ⟨fun s hs => by rw [h.1 s hs, e1 s hs], fun s i hs hi => by rw [h.2 s i hs hi, e2 s hs]⟩
/-! orders come to be known -/
theorem m_lr1 (n k : Nat) (D : WD) (hD : PFl D) (hk : k < dN D) (K : Int64 → Int32 → St → Option (Int32 × St)) (v1 : Int64) (st : St) (hP : MP st D) (hdm : dKd D k = 3 → st.1 140 k = nI (dDm D k)) : ∃ st1, fX11_goesBy_s110 n K v1 (nI k) st = fX11_goesBy_s155 n K v1 (nI k) st1 ∧ st1.1 = st.1 ∧ (∀ o, o ≠ 142 → o ≠ 147 → st1.2 o = st.2 o) ∧ (∀ x, x ≠ 8 * k + k → st1.2 142 x = st.2 142 x) ∧ st1.2 142 (8 * k + k) = st.2 142 (8 * k + k) + lN (dmA D k) ∧ (∀ x, x ≠ k → st1.2 147 x = st.2 147 x) ∧ st1.2 147 k = st.2 147 k + lN (dmA D k) := by
  have hN := hD.1.1
  have hk8 : k < 8 := by omega
  have i1 : inb (nI k) 8 = true := inb_nI hk8 (by decide)
  have c1 : (nI k).toNatClampNeg = k := nI_clamp (by omega)
  have ek : st.1 131 k = dKd D k := by rw [hP.2.1]
  simp only [fX11_goesBy_s110, i1, c1, if_true, ek]
  by_cases z : dKd D k = 3
  · rw [if_pos z]
    have e9 : (9 : Int32) * nI k = nI (8 * k + k) := by rw [show (9 : Int32) = nI 9 from rfl, pk_mul, show 9 * k = 8 * k + k by omega]
    have hb := hD.2.2.1 k hk8
    simp only [fX11_goesBy_s120, e9, inb_nI (show 8 * k + k < 64 by omega) (by decide), nI_clamp (show 8 * k + k < 2 ^ 31 by omega), i1, c1, if_true, hdm z, nI_l (show dDm D k < 2 ^ 31 by omega), fX11_goesBy_s139, sJ_1]
    refine ⟨_, rfl, rfl, fun o o1 o2 => by rw [sJ_o o2, sJ_o o1], fun x hx => by rw [sJ_o (by decide), sJ_k hx], by rw [sJ_o (by decide), sJ_at, dm_shop hk z], fun x hx => by rw [sJ_k hx, sJ_o (by decide)], by rw [sJ_at, sJ_o (by decide), dm_shop hk z]⟩
  · rw [if_neg z]
    have e0 : lN (dmA D k) = 0 := by rw [dm_no z]; rfl
    exact ⟨st, rfl, rfl, fun _ _ _ => rfl, fun _ _ => rfl, by rw [e0, Int64.add_zero], fun _ _ => rfl, by rw [e0, Int64.add_zero]⟩
theorem m_sh216 (n s : Nat) (hs : s < 8) (K : Int64 → Int32 → St → Option (Int32 × St)) (v1 : Int64) (pn : Nat → Nat) : ∀ (j i : Nat) (st : St), i ≤ 3 → 3 - i < j → (∀ t, t < 4 → st.2 144 (4 * s + t) = lN (if t < i then pn (t + 1) else pn t)) → ∃ st1, fX11_goesBy_L216 n K j v1 (nI s) (nI i) st = fX11_goesBy_s252 n K v1 (nI s) st1 ∧ kJ1 144 st st1 ∧ (∀ k, k < 4 * s ∨ 4 * s + 4 ≤ k → st1.2 144 k = st.2 144 k) ∧ ∀ t, t < 3 → st1.2 144 (4 * s + t) = lN (pn (t + 1)) := by
  intro j
  induction j with
  | zero => intro i st _ hj; omega
  | succ j ih =>
    intro i st h3 hj hr
    simp only [fX11_goesBy_L216, fX11_goesBy_s216]
    by_cases q : i = 3
    · subst q
      rw [if_pos (show (3 : Int32) ≤ nI 3 by decide)]
      exact ⟨st, rfl, kJ1.rf _ _, fun _ _ => rfl, fun t ht => by rw [hr t (by omega), if_pos (by omega)]⟩
    · rw [if_neg (show ¬ (3 : Int32) ≤ nI i from nI_ge (b := 3) (by omega) (by decide))]
      have a1 := hr (i + 1) (by omega)
      rw [if_neg (by omega)] at a1
      simp only [fX11_goesBy_s222, i4mul, nI_1, inb_nI (show 4 * s + i < 32 by omega) (by decide), inb_nI (show 4 * s + i + 1 < 32 by omega) (by decide), nI_clamp (show 4 * s + i < 2 ^ 31 by omega), nI_clamp (show 4 * s + i + 1 < 2 ^ 31 by omega), if_true, show st.2 144 (4 * s + i + 1) = lN (pn (i + 1)) from a1, fX11_goesBy_s246]
      obtain ⟨st1, k0, k1, k2, k3⟩ := ih (i + 1) (setJ st 144 (4 * s + i) (lN (pn (i + 1)))) (by omega) (by omega) (fun t ht => by
        by_cases z : t = i
        · subst z; rw [sJ_at, if_pos (by omega)]
        · rw [sJ_k (by omega), hr t ht]
          by_cases y : t < i
          · rw [if_pos y, if_pos (by omega)]
          · rw [if_neg y, if_neg (by omega)])
      exact ⟨st1, k0, (kJ1.pt 144 st _ _).tr k1, fun k hk => by rw [k2 k hk, sJ_k (by omega)], k3⟩
theorem m_lr2 (n k p : Nat) (hn : 200 ≤ n) (D : WD) (hD : PFl D) (hk : k < dN D) (hk0 : k ≠ 0) (hp : p < k) (ep : dSp D k = nI p) (K : Int64 → Int32 → St → Option (Int32 × St)) (v1 : Int64) (pn : Nat → Nat) (hp4 : pn 4 = 0) (st : St) (hP : MP st D) (hg : ∀ t, t < 4 → st.2 144 (4 * k + t) = lN (pn t)) : ∃ st1, fX11_goesBy_s155 n K v1 (nI k) st = fX11_goesBy_s263 n K v1 (nI k) st1 ∧ st1.1 = st.1 ∧ (∀ o, o ≠ 142 → o ≠ 147 → o ≠ 144 → st1.2 o = st.2 o) ∧ (∀ x, x ≠ 8 * p + k → st1.2 142 x = st.2 142 x) ∧ st1.2 142 (8 * p + k) = st.2 142 (8 * p + k) + lN (pn 0) ∧ (∀ x, x ≠ p → st1.2 147 x = st.2 147 x) ∧ st1.2 147 p = st.2 147 p + lN (pn 0) ∧ (∀ x, x < 4 * k ∨ 4 * k + 4 ≤ x → st1.2 144 x = st.2 144 x) ∧ ∀ t, t < 4 → st1.2 144 (4 * k + t) = lN (pn (t + 1)) := by
  have hN := hD.1.1
  have hk8 : k < 8 := by omega
  have i1 : inb (nI k) 8 = true := inb_nI hk8 (by decide)
  have c1 : (nI k).toNatClampNeg = k := nI_clamp (by omega)
  obtain ⟨kk, hk1, hk3, ekk⟩ := ((hD.2.1 k hk).2.1 hk0).1
  have ek : st.1 131 k = nI kk := by rw [hP.2.1]; exact ekk
  have es : st.1 132 k = nI p := by rw [hP.2.2.1]; exact ep
  have g0 : st.2 144 (4 * k) = lN (pn 0) := hg 0 (by omega)
  have e4 : (4 : Int32) * nI k = nI (4 * k) := by rw [show (4 : Int32) = nI 4 from rfl, pk_mul]
  have e43 : nI (4 * k) + 3 = nI (4 * k + 3) := by rw [show (3 : Int32) = nI 3 from rfl, nI_add]
  simp only [fX11_goesBy_s155, i1, c1, if_true, ek]
  rw [if_neg (nI_ne0 (by omega) (by omega))]
  simp only [fX11_goesBy_s164, i1, c1, if_true, es, i8mul, inb_nI (show 8 * p + k < 64 by omega) (by decide), nI_clamp (show 8 * p + k < 2 ^ 31 by omega), e4, inb_nI (show 4 * k < 32 by omega) (by decide), nI_clamp (show 4 * k < 2 ^ 31 by omega), g0, fX11_goesBy_s191, sJ_1, inb_nI (show p < 8 by omega) (by decide), nI_clamp (show p < 2 ^ 31 by omega), fX11_goesBy_s213]
  have q144 : ∀ v1 v2 : Int64, (setJ (setJ st 142 (8 * p + k) v1) 147 p v2).2 144 = st.2 144 := fun v1 v2 => by rw [sJ_o (by decide), sJ_o (by decide)]
  have q1441 : ∀ v1 : Int64, (setJ st 142 (8 * p + k) v1).2 144 (4 * k) = lN (pn 0) := fun v1 => by rw [sJ_o (by decide)]; exact g0
  rw [q1441]
  obtain ⟨st1, k0, k1, k2, k3⟩ := m_sh216 n k hk8 K v1 pn n 0 (setJ (setJ st 142 (8 * p + k) (st.2 142 (8 * p + k) + lN (pn 0))) 147 p ((setJ st 142 (8 * p + k) (st.2 142 (8 * p + k) + lN (pn 0))).2 147 p + lN (pn 0))) (by omega) (by omega) (fun t ht => by rw [q144, hg t ht, if_neg (by omega)])
  rw [show nI 0 = 0 from rfl] at k0
  rw [k0]
  simp only [fX11_goesBy_s252, e4, e43, inb_nI (show 4 * k + 3 < 32 by omega) (by decide), nI_clamp (show 4 * k + 3 < 2 ^ 31 by omega), if_true]
  refine ⟨_, rfl, by rw [sJ_1, k1.1, sJ_1, sJ_1], fun o o1 o2 o3 => by rw [sJ_o o3, k1.2 o o3, sJ_o o2, sJ_o o1], fun x hx => by rw [sJ_o (by decide), k1.2 142 (by decide), sJ_o (by decide), sJ_k hx], by rw [sJ_o (by decide), k1.2 142 (by decide), sJ_o (by decide), sJ_at], fun x hx => by rw [sJ_o (by decide), k1.2 147 (by decide), sJ_k hx, sJ_o (by decide)], by rw [sJ_o (by decide), k1.2 147 (by decide), sJ_at, sJ_o (by decide)], fun x hx => by rw [sJ_k (by omega), k2 x hx, q144], fun t ht => ?_⟩
  by_cases z : t = 3
  · subst z; rw [sJ_at, hp4]; rfl
  · rw [sJ_k (by omega)]; exact k3 t (by omega)
def M2 (st : St) (D : WD) (k : Nat) : Prop := (∀ s c, s < 8 → c < 8 → st.2 142 (8 * s + c) = lN (if c = s then dOs D s + (if s < k then dmA D s else 0) else if cu D s c then dOd D c + (if c < k then gN D c else 0) else 0)) ∧ (∀ s, s < 8 → st.2 147 s = lN ((if s < k then dmA D s else 0) + sumN (cgA D s) k)) ∧ ∀ c d, c < 8 → d < 4 → st.2 144 (4 * c + d) = lN (if c = 0 then 0 else pend (dOr D) (dWk D) (dDl D c).toNatClampNeg c (if c < k then d + 1 else d))
theorem m_ph2 (n : Nat) (hn : 200 ≤ n) (D : WD) (hD : PFl D) (v1 : Int64) : ∀ (j k : Nat) (st : St), k ≤ dN D → dN D - k < j → MP st D → (∀ s, s < dN D → dKd D s = 3 → st.1 140 s = nI (dDm D s)) → M2 st D k → ∃ st1, fX11_goesBy_L102 n j v1 (nI k) st = fX11_goesBy_s269 n v1 st1 ∧ st1.1 = st.1 ∧ (∀ o, o ≠ 142 → o ≠ 147 → o ≠ 144 → st1.2 o = st.2 o) ∧ M2 st1 D (dN D) := by
  have hN := hD.1.1
  intro j
  induction j with
  | zero => intro k st _ hj; omega
  | succ j ih =>
    intro k st hk hj hP hdm hM
    simp only [fX11_goesBy_L102, fX11_goesBy_s102, hP.1]
    by_cases q : k = dN D
    · subst q
      rw [if_pos (Int32.le_refl _)]
      exact ⟨st, rfl, rfl, fun _ _ _ _ => rfl, hM⟩
    · rw [if_neg (nI_ge (show k < dN D by omega) (by omega))]
      have hkN : k < dN D := by omega
      have hk8 : k < 8 := by omega
      obtain ⟨m2, m7, m4⟩ := hM
      obtain ⟨s1, a0, a1, a2, a3, a4, a5, a6⟩ := m_lr1 n k D hD hkN (fX11_goesBy_L102 n j) v1 st hP (hdm k hkN)
      rw [a0]
      have hP1 : MP s1 D := hP.k (fun o _ _ => by rw [a1])
      have cgk : ∀ s, s < 8 → cgA D s k = if k ≠ 0 ∧ dSp D k = nI s then gN D k else 0 := fun s hs => by
        unfold cgA
        by_cases z : k ≠ 0 ∧ dSp D k = nI s
        · rw [if_pos z, if_pos ⟨hkN, z⟩]
        · rw [if_neg z, if_neg (fun w => z w.2)]
      -- the state behind the stage's own orders
      have key : ∀ s2 : St, s2.1 = st.1 → (∀ o, o ≠ 142 → o ≠ 147 → o ≠ 144 → s2.2 o = st.2 o) → M2 s2 D (k + 1) → ∃ st1, fX11_goesBy_s263 n (fX11_goesBy_L102 n j) v1 (nI k) s2 = fX11_goesBy_s269 n v1 st1 ∧ st1.1 = st.1 ∧ (∀ o, o ≠ 142 → o ≠ 147 → o ≠ 144 → st1.2 o = st.2 o) ∧ M2 st1 D (dN D) := by
        intro s2 h1 h2 hM2
        simp only [fX11_goesBy_s263, nI_1]
        obtain ⟨s3, g0, g1, g2, g3⟩ := ih (k + 1) s2 (by omega) (by omega) (hP.k (fun o _ _ => by rw [h1])) (fun s hs h3 => by rw [h1]; exact hdm s hs h3) hM2
        exact ⟨s3, g0, g1.trans h1, fun o o1 o2 o3 => (g2 o o1 o2 o3).trans (h2 o o1 o2 o3), g3⟩
      by_cases z : k = 0
      · subst z
        have i1 : inb (nI 0) 8 = true := rfl
        have c1 : (nI 0).toNatClampNeg = 0 := rfl
        have ek : s1.1 131 0 = 0 := by rw [hP1.2.1]; exact ((hD.2.1 0 hkN).1 rfl).1
        simp only [fX11_goesBy_s155, i1, c1, if_true, ek]
        have d0 : dmA D 0 = 0 := dm_no (by rw [((hD.2.1 0 hkN).1 rfl).1]; decide)
        have g0 : gN D 0 = 0 := by unfold gN; rw [if_pos rfl]
        refine key s1 a1 (fun o o1 o2 o3 => a2 o o1 o2) ⟨fun s c hs hc => ?_, fun s hs => ?_, fun c d hc hd => ?_⟩
        · by_cases y : 8 * s + c = 8 * 0 + 0
          · have : s = 0 := by omega
            subst this
            have : c = 0 := by omega
            subst this
            rw [a4, m2 0 0 hs hc, if_pos rfl, if_pos rfl, d0, lN_add]; rfl
          · rw [a3 _ y, m2 s c hs hc]
            congr 1
            by_cases w : c = s
            · subst w; rw [if_pos rfl, if_pos rfl, if_neg (by omega), if_neg (by omega)]
            · rw [if_neg w, if_neg w]
              by_cases x : cu D s c
              · rw [if_pos x, if_pos x]
                have := x.2.1
                rw [if_neg (by omega), if_neg (by omega)]
              · rw [if_neg x, if_neg x]
        · have e1 : sumN (cgA D s) (0 + 1) = 0 := by
            show 0 + cgA D s 0 = 0
            rw [cgk s hs, if_neg (fun w => w.1 rfl)]
          rw [e1]
          by_cases y : s = 0
          · subst y
            rw [a6, m7 0 hs, d0, lN_add]; rfl
          · rw [a5 s y, m7 s hs, if_neg (show ¬ s < 0 by omega), if_neg (show ¬ s < 0 + 1 by omega)]; rfl
        · rw [a2 144 (by decide) (by decide), m4 c d hc hd]
          by_cases y : c = 0
          · rw [if_pos y, if_pos y]
          · rw [if_neg y, if_neg y, if_neg (by omega), if_neg (by omega)]
      · obtain ⟨p, hp, ep, ecp, hkp⟩ := w_sup hD hkN z
        have hp8 : p < 8 := by omega
        obtain ⟨d, hd3, ed⟩ := (hD.2.1 k hkN).2.2.2
        have cd : (dDl D k).toNatClampNeg = d := by rw [ed, nI_clamp (by omega)]
        obtain ⟨s2, b0, b1, b2, b3, b4, b5, b6, b7, b8⟩ := m_lr2 n k p hn D hD hkN z hp ep (fX11_goesBy_L102 n j) v1 (pend (dOr D) (dWk D) (dDl D k).toNatClampNeg k) (by rw [cd]; unfold pend; rw [if_neg (by omega)]) s1 hP1 (fun t ht => by rw [a2 144 (by decide) (by decide), m4 k t hk8 ht, if_neg z, if_neg (by omega)])
        rw [b0]
        have eg : pend (dOr D) (dWk D) (dDl D k).toNatClampNeg k 0 = gN D k := by unfold gN; rw [if_neg z]
        rw [eg] at b4 b6
        have hcup : cu D p k := ⟨hkN, z, ep⟩
        have hsp : ∀ s, s < 8 → ((k ≠ 0 ∧ dSp D k = nI s) ↔ s = p) := fun s hs => ⟨fun w => (nI_eq (by omega) (by omega)).mp (w.2.symm.trans ep), fun w => ⟨z, by rw [w]; exact ep⟩⟩
        refine key s2 (b1.trans a1) (fun o o1 o2 o3 => (b2 o o1 o2 o3).trans (a2 o o1 o2)) ⟨fun s c hs hc => ?_, fun s hs => ?_, fun c e hc he => ?_⟩
        · by_cases y : 8 * s + c = 8 * p + k
          · have e1 : s = p := by omega
            subst e1
            have e2 : c = k := by omega
            subst e2
            rw [b4, a3 _ (by omega), m2 s c hs hc, if_neg (show ¬ c = s by omega), if_neg (show ¬ c = s by omega), if_pos hcup, if_pos hcup, if_neg (by omega), if_pos (by omega), lN_add]; rfl
          · rw [b3 _ y]
            by_cases y2 : 8 * s + c = 8 * k + k
            · have e1 : s = k := by omega
              subst e1
              have e2 : c = s := by omega
              subst e2
              rw [a4, m2 c c hs hc, if_pos rfl, if_pos rfl, if_neg (by omega), if_pos (by omega), lN_add]; rfl
            · rw [a3 _ y2, m2 s c hs hc]
              congr 1
              by_cases w : c = s
              · subst w
                rw [if_pos rfl, if_pos rfl]
                by_cases x : c < k
                · rw [if_pos x, if_pos (by omega)]
                · rw [if_neg x, if_neg (by omega)]
              · rw [if_neg w, if_neg w]
                by_cases x : cu D s c
                · rw [if_pos x, if_pos x]
                  have hck : c ≠ k := fun e => by
                    subst e
                    exact y (by rw [(hsp s hs).mp x.2])
                  by_cases x2 : c < k
                  · rw [if_pos x2, if_pos (by omega)]
                  · rw [if_neg x2, if_neg (by omega)]
                · rw [if_neg x, if_neg x]
        · rw [sumN, cgk s hs]
          by_cases y : s = p
          · subst y
            rw [b6, a5 s (by omega), m7 s hs, lN_add, if_pos (show k ≠ 0 ∧ dSp D k = nI s from ⟨z, ep⟩), if_pos hp, if_pos (show s < k + 1 by omega), Nat.add_assoc]
          · rw [b5 s y, if_neg (fun w => y ((hsp s hs).mp w))]
            by_cases x : s = k
            · subst x
              rw [a6, m7 s hs, lN_add, if_neg (show ¬ s < s by omega), if_pos (show s < s + 1 by omega)]
              congr 1; omega
            · rw [a5 s x, m7 s hs]
              by_cases x2 : s < k
              · rw [if_pos x2, if_pos (show s < k + 1 by omega)]; rfl
              · rw [if_neg x2, if_neg (show ¬ s < k + 1 by omega)]; rfl
        · by_cases y : c = k
          · subst y
            rw [b8 e he, if_neg z, if_pos (by omega)]
          · rw [b7 _ (by omega), a2 144 (by decide) (by decide), m4 c e hc he]
            by_cases y0 : c = 0
            · rw [if_pos y0, if_pos y0]
            · rw [if_neg y0, if_neg y0]
              by_cases x2 : c < k
              · rw [if_pos x2, if_pos (by omega)]
              · rw [if_neg x2, if_neg (by omega)]
theorem M2.all {st : St} {D : WD} (hD : PFl D) (h : M2 st D (dN D)) : (∀ s c, s < 8 → c < 8 → st.2 142 (8 * s + c) = lN (mmA D s c)) ∧ (∀ s, s < 8 → st.2 147 s = lN (snA D s)) ∧ ∀ c d, c < 8 → d < 4 → st.2 144 (4 * c + d) = lN (if c = 0 then 0 else pend (dOr D) (dWk D) (dDl D c).toNatClampNeg c (d + 1)) := by
  obtain ⟨m2, m7, m4⟩ := h
  have hdm : ∀ s, (if s < dN D then dmA D s else 0) = dmA D s := fun s => by
    split
    · rfl
    · unfold dmA; rw [if_neg (fun w => by omega)]
  refine ⟨fun s c hs hc => ?_, fun s hs => ?_, fun c d hc hd => ?_⟩
  · rw [m2 s c hs hc, hdm]
    congr 1
    unfold mmA osA odA
    by_cases w : c = s
    · rw [if_pos w, if_pos w]
    · rw [if_neg w, if_neg w]
      by_cases x : cu D s c
      · rw [if_pos x, if_pos x, if_pos x.1]
      · rw [if_neg x, if_neg x]
  · rw [m7 s hs, hdm, cg_all hD]; rfl
  · rw [m4 c d hc hd]
    by_cases w : c = 0
    · rw [if_pos w, if_pos w]
    · rw [if_neg w, if_neg w]
      by_cases x : c < dN D
      · rw [if_pos x]
      · rw [if_neg x]
        have hz := fun u => ((hD.2.2.2.1 c (by omega) hc).2.2.2.2.2 u).1
        have p1 : ∀ e, pend (dOr D) (dWk D) (dDl D c).toNatClampNeg c e = 0 := fun e => by
          unfold pend
          split
          · exact hz _
          · rfl
        rw [p1, p1]
