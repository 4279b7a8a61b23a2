/-! ===== the reference's week: orders, costs, the whole ===== -/
def MQ2 (st : St) (E : PD) (R : Nat) : Prop := st.1 139 = pRl E ∧ st.1 135 = pLt E ∧ st.1 136 = pCp E ∧ st.1 137 = pHd E ∧ st.1 138 = pLk E ∧ ∀ r, r < R → st.1 153 r = nI (pLn E r) ∧ ∀ j, j < pLn E r → stepR (pSt E (120 * r + j)) (st.1 154 (120 * r + j))
theorem MQ2.k {st st1 : St} {E : PD} {R : Nat} (h : MQ2 st E R) (k : ∀ o, 135 ≤ o → o ≠ 140 → st1.1 o = st.1 o) : MQ2 st1 E R := by
  unfold MQ2 at h ⊢
  rw [k 139 (by omega) (by omega), k 135 (by omega) (by omega), k 136 (by omega) (by omega), k 137 (by omega) (by omega), k 138 (by omega) (by omega), k 153 (by omega) (by omega), k 154 (by omega) (by omega)]
  exact h
theorem m_ordE (n s : Nat) (D : WD) (E : PD) (R : Nat) (hD : PFl D) (hE : PPl E (dN D) R) (hs : s < dN D) (st : St) (hQ : MQ2 st E R) : fX11_orders_s29 n (nI s) (vW D E s) st = fX11_orders_s91 n (nI s) (lN (oW D E s)) st := by
  have hN := hD.1.1
  have i1 : inb (nI s) 8 = true := inb_nI (by omega) (by decide)
  have c1 : (nI s).toNatClampNeg = s := nI_clamp (by omega)
  obtain ⟨-, ⟨L, hL1, hL50, eL⟩, ⟨C, hC1, hC9, eC⟩, -, -⟩ := hE.2.1 s hs
  have eo : oW D E s = ordN (vW D E s).toInt.toNat L C := by unfold oW; rw [eL, eC, nI_clamp (by omega), nI_clamp (by omega)]
  have e6 : st.1 135 s = nI L := by rw [hQ.2.1]; exact eL
  have e7 : st.1 136 s = nI C := by rw [hQ.2.2.1]; exact eC
  obtain ⟨x1, x2, x3⟩ := bnd_x (w_v hD hE hs)
  obtain ⟨m1, m2⟩ := ord_mul (vW D E s).toInt.toNat L x2 hL1 hL50
  have en0 : ¬ lN L = 0 := by intro w; have := fb0 (by omega) w; omega
  have s67 : ∀ y : Nat, y < 2 ^ 31 → fX11_orders_s67 n (nI s) (lN y) st = fX11_orders_s91 n (nI s) (lN (if C < y then C else y)) st := by
    intro y hy
    simp only [fX11_orders_s67, i1, c1, if_true, e7, nI_l (show C < 2 ^ 31 by omega)]
    by_cases q : C < y
    · rw [if_neg (fun w => by have := (pk_lLE (by omega) (by omega)).mp w; omega), if_pos q]
      simp only [fX11_orders_s80, i1, c1, if_true, e7, nI_l (show C < 2 ^ 31 by omega)]
    · rw [if_pos ((pk_lLE (by omega) (by omega)).mpr (by omega)), if_neg q]
      simp only [fX11_orders_s90]
  simp only [fX11_orders_s29]
  by_cases q : (0 : Int64) ≤ vW D E s
  · have xe : vW D E s = lN (vW D E s).toInt.toNat := by
      rw [if_neg (le_of_nlt64.mpr q)] at x1
      exact x1
    rw [if_pos q]
    simp only [fX11_orders_s40, i1, c1, if_true, e6, nI_l (show L < 2 ^ 31 by omega), if_neg en0]
    rw [show (vW D E s + lN L - 1) / lN L * lN L = lN (((vW D E s).toInt.toNat + L - 1) / L * L) from by rw [← m1]; rw [← xe]]
    rw [s67 _ (by omega), eo]
    rfl
  · rw [if_neg q]
    simp only [fX11_orders_s36]
    have := s67 0 (by decide)
    rw [show lN 0 = 0 from rfl] at this
    rw [this, eo, x3 q]
    have : ordN 0 L C = 0 := by
      unfold ordN
      rw [show (0 + L - 1) / L = 0 from Nat.div_eq_of_lt (by omega), Nat.zero_mul, if_neg (by omega)]
    rw [this, if_neg (by omega)]
theorem m_orders (n s : Nat) (hn : 200 ≤ n) (D : WD) (E : PD) (R : Nat) (hD : PFl D) (hE : PPl E (dN D) R) (hs : s < dN D) (st : St) (hP : MP st D) (hQ : MQ2 st E R) (ew : st.1 130 12 = nI (dWk D)) (hM : ME st s (dWk D + 1) (stkB D s) (owB D s) (sumN (sltB D s) 6) (unB D s) (fun u => seB D u s)) : ∃ st0, kJ1 158 st st0 ∧ fX11_orders n (nI s) st = some ((), if s = 0 then setJ (setJ (setJ st0 148 s (lN (oW D E s))) 130 13 (st0.2 130 13 + lN (oW D E s))) 143 (7 * s + (dWy D s).toNatClampNeg) (st0.2 143 (7 * s + (dWy D s).toNatClampNeg) + lN (oW D E s)) else setJ (setJ st0 148 s (lN (oW D E s))) 144 (4 * s + (dDl D s).toNatClampNeg) (st0.2 144 (4 * s + (dDl D s).toNatClampNeg) + lN (oW D E s))) := by
  have hN := hD.1.1
  have hw := hD.1.2.2.2
  have hs8 : s < 8 := by omega
  have hR := hE.1
  have i1 : inb (nI s) 8 = true := inb_nI (by omega) (by decide)
  have c1 : (nI s).toNatClampNeg = s := nI_clamp (by omega)
  -- the value
  have val : ∃ st0, kJ1 158 st st0 ∧ fX11_orders n (nI s) st = fX11_orders_s29 n (nI s) (vW D E s) st0 := by
    have e139 : st.1 139 s = pRl E s := by rw [hQ.1]
    simp only [fX11_orders, fX11_orders_s0, i1, c1, if_true, e139]
    rcases (hE.2.1 s hs).1 with h | ⟨r, hr, h⟩
    · rw [h, if_pos rfl]
      refine ⟨st, kJ1.rf _ _, ?_⟩
      simp only [fX11_orders_s10, vW, h, if_true]
    · have hne : ¬ pRl E s = -1 := by rw [h]; intro w; have := congrArg Int32.toInt w; rw [nI_toInt (by omega)] at this; have e : (-1 : Int32).toInt = -1 := rfl; omega
      rw [if_neg hne]
      obtain ⟨hl, hst, hdp⟩ := hE.2.2 r hr
      obtain ⟨hln, hsr⟩ := hQ.2.2.2.2.2 r hr
      obtain ⟨st1, e1, k1⟩ := m_value n r s (pLn E r) (nI (dWk D)) hn (by omega) st (fdW D s) (w_fdb hD hs8) (fun j => pSt E (120 * r + j)) hl hsr hln hdp (fun st' k' => by
        have := m_field n s (dWk D + 1) _ _ _ _ _ hn hs8 (by omega) (fun u => w_se hD hs8 u) st' (hM.k k' (Or.inr rfl))
        rw [nI_pred] at this
        exact this)
      refine ⟨st1, k1, ?_⟩
      have ev : vW D E s = vlJ (fdW D s) (fun j => pSt E (120 * r + j)) (pLn E r) := by unfold vW; rw [if_neg hne, h, nI_clamp (by omega)]
      simp only [fX11_orders_s14, i1, c1, if_true, e139, h, ew, e1, Option.bind_some, ev]
  obtain ⟨st0, k0, e0⟩ := val
  refine ⟨st0, k0, ?_⟩
  have hP0 : MP st0 D := hP.k (fun o _ _ => by rw [k0.1])
  rw [e0, m_ordE n s D E R hD hE hs st0 (hQ.k (fun o _ _ => by rw [k0.1]))]
  have ek : st0.1 131 s = dKd D s := by rw [hP0.2.1]
  simp only [fX11_orders_s91, i1, c1, if_true, fX11_orders_s99, sJ_1, ek]
  by_cases z : s = 0
  · subst z
    rw [((hD.2.1 0 hs).1 rfl).1, if_pos rfl, if_pos rfl]
    obtain ⟨y, hy1, hy6, ey, cy⟩ := w_wy hD hs
    have e3 : st0.1 133 0 = nI y := by rw [hP0.2.2.2.1]; exact ey
    rw [cy]
    simp only [fX11_orders_s108, fX11_orders_s118, i1, c1, if_true, sJ_1, e3, i7mul, inb_nI (show 7 * 0 + y < 56 by omega) (by decide), nI_clamp (show 7 * 0 + y < 2 ^ 31 by omega), fX11_orders_s138, fX11_orders_s160]
    rw [sJ_o (show (130 : Nat) ≠ 148 by decide), sJ_o (show (143 : Nat) ≠ 130 by decide), sJ_o (show (143 : Nat) ≠ 148 by decide)]
  · obtain ⟨k, hk1, hk3, ekk⟩ := ((hD.2.1 s hs).2.1 z).1
    rw [ekk, if_neg (nI_ne0 (by omega) (by omega)), if_neg z]
    obtain ⟨d, hd3, ed⟩ := (hD.2.1 s hs).2.2.2
    have cd : (dDl D s).toNatClampNeg = d := by rw [ed, nI_clamp (by omega)]
    have e4 : st0.1 134 s = nI d := by rw [hP0.2.2.2.2.1]; exact ed
    rw [cd]
    simp only [fX11_orders_s141, i1, c1, if_true, sJ_1, e4, i4mul, inb_nI (show 4 * s + d < 32 by omega) (by decide), nI_clamp (show 4 * s + d < 2 ^ 31 by omega), fX11_orders_s160]
    rw [sJ_o (show (144 : Nat) ≠ 148 by decide)]
/-- orders that are on their way, with this week's of the stages below k -/
noncomputable def gvN (D : WD) (E : PD) (k c d : Nat) : Nat := if c = 0 then 0 else pend (dOr D) (dWk D) (dDl D c).toNatClampNeg c (d + 1) + (if c < k ∧ d = (dDl D c).toNatClampNeg then oW D E c else 0)
def M4 (st : St) (D : WD) (E : PD) (md k : Nat) : Prop := (∀ s, s < k → st.2 149 (40 * s + dWk D % 40) = lN (snA D s) ∧ st.2 150 (40 * s + dWk D % 40) = lN (oW D E s) ∧ st.2 148 s = lN (oW D E s)) ∧ (∀ c d, c < 8 → d < 4 → st.2 144 (4 * c + d) = lN (gvN D E k c d)) ∧ (∀ c i, c < 8 → i < 6 → st.2 143 (7 * c + i + 1) = lN (sltB D c i + (if 0 < k ∧ c = 0 ∧ i + 1 = (dWy D 0).toNatClampNeg then oW D E 0 else 0))) ∧ st.2 130 13 = lN (md + (if 0 < k then oW D E 0 else 0))
theorem m_ph4 (n R md : Nat) (hn : 200 ≤ n) (D : WD) (E : PD) (hD : PFl D) (hE : PPl E (dN D) R) (v1 : Int64) : ∀ (j k : Nat) (st : St), k ≤ dN D → dN D - k < j → MP st D → MQ2 st E R → st.1 130 12 = nI (dWk D) → (∀ s, s < 8 → st.2 141 s = lN (stkB D s)) → (∀ s c, s < 8 → c < 8 → st.2 142 (8 * s + c) = lN (mmA D s c - shA D s c)) → (∀ s, s < 8 → st.2 147 s = lN (snA D s)) → (∀ u s, s < 8 → u < dWk D → dWk D + 1 ≤ u + 4 → st.2 149 (40 * s + u % 40) = lN (dSe D u s)) → M4 st D E md k → ∃ st1, fX11_goesBy_L295 n j v1 (nI k) st = fX11_goesBy_s360 n v1 st1 ∧ st1.1 = st.1 ∧ M4 st1 D E md (dN D) ∧ (∀ o, o ≠ 130 → o ≠ 143 → o ≠ 144 → o ≠ 148 → o ≠ 149 → o ≠ 150 → o ≠ 158 → st1.2 o = st.2 o) ∧ st1.2 130 14 = st.2 130 14 ∧ (∀ s, dN D ≤ s → st1.2 148 s = st.2 148 s) ∧ ∀ s r, s < 8 → r < 40 → ((r ≠ dWk D % 40) ∨ dN D ≤ s) → st1.2 149 (40 * s + r) = st.2 149 (40 * s + r) ∧ st1.2 150 (40 * s + r) = st.2 150 (40 * s + r) := by
  have hN := hD.1.1
  have hw := hD.1.2.2.2
  intro j
  induction j with
  | zero => intro k st _ hj; omega
  | succ j ih =>
    intro k st hk hj hP hQ ew h1 h2 h7 h9 hM
    simp only [fX11_goesBy_L295, fX11_goesBy_s295, hP.1]
    by_cases q : k = dN D
    · subst q
      rw [if_pos (Int32.le_refl _)]
      exact ⟨st, rfl, rfl, hM, fun _ _ _ _ _ _ _ _ => rfl, rfl, fun _ _ => rfl, fun _ _ _ _ _ => ⟨rfl, rfl⟩⟩
    · rw [if_neg (nI_ge (show k < dN D by omega) (by omega))]
      have hkN : k < dN D := by omega
      have hk8 : k < 8 := by omega
      have i1 : inb (nI k) 8 = true := inb_nI hk8 (by decide)
      have c1 : (nI k).toNatClampNeg = k := nI_clamp (by omega)
      have i2 : inb (nI (40 * k + dWk D % 40)) 320 = true := inb_nI (by omega) (by decide)
      have c2 : (nI (40 * k + dWk D % 40)).toNatClampNeg = 40 * k + dWk D % 40 := nI_clamp (by omega)
      obtain ⟨m0, m4, m3, m13⟩ := hM
      simp only [fX11_goesBy_s303, i1, c1, if_true, ew, i40' k (dWk D) (by omega), i2, c2, h7 k hk8, fX11_goesBy_s326]
      obtain ⟨X, eX⟩ : ∃ X, X = setJ st 149 (40 * k + dWk D % 40) (lN (snA D k)) := ⟨_, rfl⟩
      rw [← eX]
      have x1 : X.1 = st.1 := by rw [eX]; rfl
      have xo : ∀ o, o ≠ 149 → X.2 o = st.2 o := fun o ho => by rw [eX, sJ_o ho]
      have x9 : ∀ y, X.2 149 y = if y = 40 * k + dWk D % 40 then lN (snA D k) else st.2 149 y := fun y => by
        rw [eX]
        by_cases z : y = 40 * k + dWk D % 40
        · subst z; rw [sJ_at, if_pos rfl]
        · rw [sJ_k z, if_neg z]
      have hME : ME X k (dWk D + 1) (stkB D k) (owB D k) (sumN (sltB D k) 6) (unB D k) (fun u => seB D u k) := by
        refine ⟨by rw [xo 141 (by decide)]; exact h1 k hk8, ⟨fun c => mmA D k c - shA D k c, fun c hc => by rw [xo 142 (by decide)]; exact h2 k c hk8 hc, ?_⟩, ⟨sltB D k, fun i hi => by rw [xo 143 (by decide), m3 k i hk8 hi, if_neg (by omega)]; rfl, rfl⟩, ?_, ?_, fun u hu huw => ?_⟩
        · rw [(sumN_sub (f := mmA D k) (g := shA D k) 8 (fun i _ => w_sh D k i)).1, w_mmS hD hk8]; rfl
        · rw [x1, hP.2.1, hP.2.2.1]
          by_cases z : k = 0
          · subst z
            refine Or.inl ⟨((hD.2.1 0 hkN).1 rfl).1, ?_⟩
            unfold unB unA
            rw [if_pos rfl]; omega
          · obtain ⟨p, hp, ep, ecp, hkp⟩ := w_sup hD hkN z
            obtain ⟨⟨kk, hk1, hk3, ekk⟩, -⟩ := (hD.2.1 k hkN).2.1 z
            refine Or.inr ⟨by rw [ekk]; exact nI_ne0 (by omega) (by omega), p, odB D k, fun d => pend (dOr D) (dWk D) (dDl D k).toNatClampNeg k (d + 1), by omega, ep, ?_, fun d hd => ?_, ?_⟩
            · rw [xo 142 (by decide), h2 p k (by omega) hk8]
              congr 1
              unfold odB
              rw [w_gt hD (show p < 8 by omega) ⟨hkN, z, ep⟩]
              congr 1
              unfold mmA
              rw [if_neg (by omega), if_pos ⟨hkN, z, ep⟩]
            · rw [xo 144 (by decide), m4 k d hk8 hd]
              unfold gvN
              rw [if_neg z, if_neg (by omega)]; rfl
            · have := w_unC hD (fun _ => 0) hk8
              rw [if_neg z, if_pos ⟨hkN, z⟩, sumN_congr (g := fun e => pend (dOr D) (dWk D) (dDl D k).toNatClampNeg k (e + 1)) 4 (fun e _ => by rw [pend_nx _ hkN]; split <;> rfl)] at this
              exact this
        · rw [xo 147 (by decide), h7 k hk8, if_neg (by omega)]
          show lN (snA D k) = lN (seB D (dWk D + 1 - 1) k)
          unfold seB
          rw [if_pos (by omega)]
        · rw [x9]
          show _ = lN (seB D u k)
          unfold seB
          by_cases z : u = dWk D
          · subst z; rw [if_pos rfl, if_pos rfl]
          · rw [if_neg (by omega), if_neg z]
            exact h9 u k hk8 (by omega) huw
      obtain ⟨Y, kY, eY⟩ := m_orders n k hn D E R hD hE hkN X (hP.k (fun o _ _ => by rw [x1])) (hQ.k (fun o _ _ => by rw [x1])) (by rw [x1]; exact ew) hME
      rw [eY]
      simp only [Option.bind_some]
      have y1 : Y.1 = st.1 := kY.1.trans x1
      have yo : ∀ o, o ≠ 149 → o ≠ 158 → Y.2 o = st.2 o := fun o o1 o2 => by rw [kY.2 o o2, xo o o1]
      have y9 : ∀ y, Y.2 149 y = if y = 40 * k + dWk D % 40 then lN (snA D k) else st.2 149 y := fun y => by rw [kY.2 149 (by decide)]; exact x9 y
      -- the state behind the order
      have key : ∀ Z : St, Z.1 = st.1 → (∀ o, o ≠ 130 → o ≠ 143 → o ≠ 144 → o ≠ 148 → Z.2 o = Y.2 o) → Z.2 130 14 = st.2 130 14 → (∀ s, Z.2 148 s = if s = k then lN (oW D E k) else st.2 148 s) → (∀ c d, c < 8 → d < 4 → Z.2 144 (4 * c + d) = lN (gvN D E (k + 1) c d)) → (∀ c i, c < 8 → i < 6 → Z.2 143 (7 * c + i + 1) = lN (sltB D c i + (if 0 < k + 1 ∧ c = 0 ∧ i + 1 = (dWy D 0).toNatClampNeg then oW D E 0 else 0))) → Z.2 130 13 = lN (md + (if 0 < k + 1 then oW D E 0 else 0)) → ∃ st1, fX11_goesBy_s331 n (fX11_goesBy_L295 n j) v1 (nI k) Z = fX11_goesBy_s360 n v1 st1 ∧ st1.1 = st.1 ∧ M4 st1 D E md (dN D) ∧ (∀ o, o ≠ 130 → o ≠ 143 → o ≠ 144 → o ≠ 148 → o ≠ 149 → o ≠ 150 → o ≠ 158 → st1.2 o = st.2 o) ∧ st1.2 130 14 = st.2 130 14 ∧ (∀ s, dN D ≤ s → st1.2 148 s = st.2 148 s) ∧ ∀ s r, s < 8 → r < 40 → ((r ≠ dWk D % 40) ∨ dN D ≤ s) → st1.2 149 (40 * s + r) = st.2 149 (40 * s + r) ∧ st1.2 150 (40 * s + r) = st.2 150 (40 * s + r) := by
        intro Z z1 zo z14 z8 z4 z3 z13
        have ewZ : Z.1 130 12 = nI (dWk D) := by rw [z1]; exact ew
        have z8k : Z.2 148 k = lN (oW D E k) := by rw [z8, if_pos rfl]
        simp only [fX11_goesBy_s331, i1, c1, if_true, ewZ, i40' k (dWk D) (by omega), i2, c2, z8k, fX11_goesBy_s354, nI_1]
        obtain ⟨V, eV⟩ : ∃ V, V = setJ Z 150 (40 * k + dWk D % 40) (lN (oW D E k)) := ⟨_, rfl⟩
        rw [← eV]
        have v1' : V.1 = st.1 := by rw [eV, sJ_1]; exact z1
        have vo : ∀ o, o ≠ 150 → V.2 o = Z.2 o := fun o ho => by rw [eV, sJ_o ho]
        have v0 : ∀ y, V.2 150 y = if y = 40 * k + dWk D % 40 then lN (oW D E k) else st.2 150 y := fun y => by
          rw [eV]
          by_cases z : y = 40 * k + dWk D % 40
          · subst z; rw [sJ_at, if_pos rfl]
          · rw [sJ_k z, if_neg z, zo 150 (by decide) (by decide) (by decide) (by decide), yo 150 (by decide) (by decide)]
        have v9 : ∀ y, V.2 149 y = if y = 40 * k + dWk D % 40 then lN (snA D k) else st.2 149 y := fun y => by rw [vo 149 (by decide), zo 149 (by decide) (by decide) (by decide) (by decide)]; exact y9 y
        have vst : ∀ o, o ≠ 130 → o ≠ 143 → o ≠ 144 → o ≠ 148 → o ≠ 149 → o ≠ 150 → o ≠ 158 → V.2 o = st.2 o := fun o o1 o2 o3 o4 o5 o6 o7 => by rw [vo o o6, zo o o1 o2 o3 o4, yo o o5 o7]
        obtain ⟨st1, g0, g1, g2, g3, g4, g5, g6⟩ := ih (k + 1) V (by omega) (by omega) (hP.k (fun o _ _ => by rw [v1'])) (hQ.k (fun o _ _ => by rw [v1'])) (by rw [v1']; exact ew) (fun s hs => by rw [vst 141 (by decide) (by decide) (by decide) (by decide) (by decide) (by decide) (by decide)]; exact h1 s hs) (fun s c hs hc => by rw [vst 142 (by decide) (by decide) (by decide) (by decide) (by decide) (by decide) (by decide)]; exact h2 s c hs hc) (fun s hs => by rw [vst 147 (by decide) (by decide) (by decide) (by decide) (by decide) (by decide) (by decide)]; exact h7 s hs) (fun u s hs hu huw => by rw [v9, if_neg (by omega)]; exact h9 u s hs hu huw) ⟨fun s hs => by
          by_cases z : s = k
          · subst z
            refine ⟨by rw [v9, if_pos rfl], by rw [v0, if_pos rfl], by rw [vo 148 (by decide), z8, if_pos rfl]⟩
          · obtain ⟨t1, t2, t3⟩ := m0 s (by omega)
            refine ⟨by rw [v9, if_neg (by omega)]; exact t1, by rw [v0, if_neg (by omega)]; exact t2, by rw [vo 148 (by decide), z8, if_neg z]; exact t3⟩, fun c d hc hd => by rw [vo 144 (by decide)]; exact z4 c d hc hd, fun c i hc hi => by rw [vo 143 (by decide)]; exact z3 c i hc hi, by rw [vo 130 (by decide)]; exact z13⟩
        refine ⟨st1, g0, g1.trans v1', g2, fun o o1 o2 o3 o4 o5 o6 o7 => (g3 o o1 o2 o3 o4 o5 o6 o7).trans (vst o o1 o2 o3 o4 o5 o6 o7), by rw [g4, vo 130 (by decide)]; exact z14, fun s hs => by rw [g5 s hs, vo 148 (by decide), z8, if_neg (by omega)], fun s r hs hr h => ?_⟩
        obtain ⟨t1, t2⟩ := g6 s r hs hr h
        rw [t1, t2, v9, v0, if_neg (by omega), if_neg (by omega)]
        exact ⟨rfl, rfl⟩
      by_cases z : k = 0
      · subst z
        rw [if_pos rfl]
        obtain ⟨y, hy1, hy6, ey, cy⟩ := w_wy hD hkN
        refine key _ (by rw [sJ_1, sJ_1, sJ_1]; exact y1) (fun o o1 o2 o3 o4 => by rw [sJ_o o2, sJ_o o1, sJ_o o4]) (by rw [sJ_o (by decide), sJ_k (by decide), sJ_o (by decide), yo 130 (by decide) (by decide)]) (fun s => ?_) (fun c d hc hd => ?_) (fun c i hc hi => ?_) ?_
        · rw [sJ_o (by decide), sJ_o (by decide)]
          by_cases t : s = 0
          · subst t; rw [sJ_at, if_pos rfl]
          · rw [sJ_k t, if_neg t, yo 148 (by decide) (by decide)]
        · rw [sJ_o (by decide), sJ_o (by decide), sJ_o (by decide), yo 144 (by decide) (by decide), m4 c d hc hd]
          congr 1
          unfold gvN
          by_cases t : c = 0
          · rw [if_pos t, if_pos t]
          · rw [if_neg t, if_neg t, if_neg (by omega), if_neg (by omega)]
        · rw [cy]
          by_cases t : 7 * c + i + 1 = 7 * 0 + y
          · have tc : c = 0 := by omega
            subst tc
            have ti : i = y - 1 := by omega
            subst ti
            have b3 : Y.2 143 (7 * 0 + y) = lN (sltB D 0 (y - 1)) := by
              have := m3 0 (y - 1) hc hi
              rw [if_neg (by omega)] at this
              rw [yo 143 (by decide) (by decide), show 7 * 0 + y = 7 * 0 + (y - 1) + 1 by omega]
              exact this
            rw [t, sJ_at, b3, lN_add, if_pos ⟨by omega, rfl, by omega⟩]
          · rw [sJ_k t, sJ_o (by decide), sJ_o (by decide), yo 143 (by decide) (by decide), m3 c i hc hi, if_neg (by omega), if_neg (by omega)]
        · rw [sJ_o (by decide), sJ_at, yo 130 (by decide) (by decide), m13, lN_add]; rfl
      · rw [if_neg z]
        obtain ⟨d0, hd3, ed⟩ := (hD.2.1 k hkN).2.2.2
        have cd : (dDl D k).toNatClampNeg = d0 := by rw [ed, nI_clamp (by omega)]
        refine key _ (by rw [sJ_1, sJ_1]; exact y1) (fun o o1 o2 o3 o4 => by rw [sJ_o o3, sJ_o o4]) (by rw [sJ_o (by decide), sJ_o (by decide), yo 130 (by decide) (by decide)]) (fun s => ?_) (fun c d hc hd => ?_) (fun c i hc hi => ?_) ?_
        · rw [sJ_o (by decide)]
          by_cases t : s = k
          · subst t; rw [sJ_at, if_pos rfl]
          · rw [sJ_k t, if_neg t, yo 148 (by decide) (by decide)]
        · rw [cd]
          by_cases t : 4 * c + d = 4 * k + d0
          · have tc : c = k := by omega
            subst tc
            have td : d = d0 := by omega
            subst td
            rw [sJ_at, yo 144 (by decide) (by decide), m4 c d hc hd, lN_add]
            congr 1
            unfold gvN
            rw [if_neg z, if_neg z, cd, if_neg (by omega), if_pos ⟨by omega, rfl⟩]; omega
          · rw [sJ_k t, sJ_o (by decide), yo 144 (by decide) (by decide), m4 c d hc hd]
            congr 1
            unfold gvN
            by_cases t0 : c = 0
            · rw [if_pos t0, if_pos t0]
            · rw [if_neg t0, if_neg t0]
              congr 1
              by_cases tc : c = k
              · subst tc; rw [cd, if_neg (by omega), if_neg (by omega)]
              · by_cases tk : c < k ∧ d = (dDl D c).toNatClampNeg
                · rw [if_pos tk, if_pos ⟨by omega, tk.2⟩]
                · rw [if_neg tk, if_neg (fun w => tk ⟨by omega, w.2⟩)]
        · rw [sJ_o (by decide), sJ_o (by decide), yo 143 (by decide) (by decide), m3 c i hc hi]
          by_cases t2 : c = 0 ∧ i + 1 = (dWy D 0).toNatClampNeg
          · rw [if_pos ⟨by omega, t2⟩, if_pos ⟨by omega, t2⟩]
          · rw [if_neg (fun w => t2 w.2), if_neg (fun w => t2 w.2)]
        · rw [sJ_o (by decide), sJ_o (by decide), yo 130 (by decide) (by decide), m13, if_pos (by omega), if_pos (by omega)]
theorem m_ph5 (n R : Nat) (hn : 200 ≤ n) (D : WD) (E : PD) (hD : PFl D) (hE : PPl E (dN D) R) (cst : Nat → Int64) (v1 : Int64) : ∀ (j k : Nat) (st : St), k ≤ dN D → dN D - k < j → MP st D → MQ2 st E R → (∀ s, s < 8 → st.2 141 s = lN (stkB D s)) → (∀ s c, s < 8 → c < 8 → st.2 142 (8 * s + c) = lN (mmA D s c - shA D s c)) → (∀ s, s < 8 → st.2 145 s = mx k (fun s => cst s + lN (cW D E s)) cst s) → (∀ s, s < k → st.1 140 s = 0) → ∃ st1, fX11_goesBy_L362 n j v1 (nI k) st = fX11_goesBy_s420 n v1 st1 ∧ (∀ o, o ≠ 140 → st1.1 o = st.1 o) ∧ (∀ o, o ≠ 145 → st1.2 o = st.2 o) ∧ (∀ s, s < 8 → st1.2 145 s = cstW D E cst s) ∧ (∀ s, s < dN D → st1.1 140 s = 0) ∧ ∀ s, dN D ≤ s → st1.1 140 s = st.1 140 s := by
  have hN := hD.1.1
  intro j
  induction j with
  | zero => intro k st _ hj; omega
  | succ j ih =>
    intro k st hk hj hP hQ h1 h2 h5 h0
    simp only [fX11_goesBy_L362, fX11_goesBy_s362, hP.1]
    by_cases q : k = dN D
    · subst q
      rw [if_pos (Int32.le_refl _)]
      exact ⟨st, rfl, fun _ _ => rfl, fun _ _ => rfl, h5, h0, fun _ _ => rfl⟩
    · rw [if_neg (nI_ge (show k < dN D by omega) (by omega))]
      have hkN : k < dN D := by omega
      have hk8 : k < 8 := by omega
      have i1 : inb (nI k) 8 = true := inb_nI hk8 (by decide)
      have c1 : (nI k).toNatClampNeg = k := nI_clamp (by omega)
      obtain ⟨-, -, -, ⟨H, hH, eH⟩, ⟨Lk, hLk, eLk⟩⟩ := hE.2.1 k hkN
      have a7 : st.1 137 k = nI H := by rw [hQ.2.2.2.1]; exact eH
      have a8 : st.1 138 k = nI Lk := by rw [hQ.2.2.2.2.1]; exact eLk
      have ow := m_owes n k st (fun c => mmA D k c - shA D k c) (by omega) hk8 (fun c hc => h2 k c hk8 hc)
      rw [(sumN_sub (f := mmA D k) (g := shA D k) 8 (fun i _ => w_sh D k i)).1, w_mmS hD hk8] at ow
      have ec : (nI H).toInt64 * lN (stkB D k) + (nI Lk).toInt64 * lN (owA D k - sumN (shA D k) 8) = lN (cW D E k) := by
        rw [nI_l (by omega), nI_l (by omega), lN_mul, lN_mul, lN_add]
        unfold cW
        rw [eH, eLk, nI_clamp (by omega), nI_clamp (by omega)]
        rfl
      have a5 := h5 k hk8
      rw [mx_ge (Nat.le_refl _)] at a5
      simp only [fX11_goesBy_s370, i1, c1, if_true, a7, a8, h1 k hk8, ow, Option.bind_some, fX11_goesBy_s403, ec, a5, fX11_goesBy_s407, fX11_goesBy_s414, nI_1]
      obtain ⟨st1, g0, g1, g2, g3, g4, g5⟩ := ih (k + 1) (setI (setJ st 145 k (cst k + lN (cW D E k))) 140 k 0) (by omega) (by omega) (hP.k (fun o _ _ => by rw [sI_o (by omega), sJ_1])) (hQ.k (fun o _ ho => by rw [sI_o ho, sJ_1])) (fun s hs => by rw [sI_2, sJ_o (by decide)]; exact h1 s hs) (fun s c hs hc => by rw [sI_2, sJ_o (by decide)]; exact h2 s c hs hc) (fun s hs => by
        rw [sI_2]
        by_cases z : s = k
        · subst z; rw [sJ_at, mx_eq]
        · rw [sJ_k z, mx_ne z]; exact h5 s hs) (fun s hs => by
        by_cases z : s = k
        · subst z; rw [sI_at]
        · rw [sI_k z, sJ_1]; exact h0 s (by omega))
      exact ⟨st1, g0, fun o ho => by rw [g1 o ho, sI_o ho, sJ_1], fun o ho => by rw [g2 o ho, sI_2, sJ_o ho], g3, g4, fun s hs => by rw [g5 s hs, sI_k (by omega), sJ_1]⟩
def MFl (st : St) (D : WD) (md sd : Nat) (cst : Nat → Int64) : Prop :=
  (st.1 130 12 = nI (dWk D) ∧ st.2 130 13 = lN md ∧ st.2 130 14 = lN sd) ∧ M1 st (dSk D) (dSl D) ∧ (∀ s c, s < 8 → c < 8 → st.2 142 (8 * s + c) = lN (if c = s then dOs D s else if cu D s c then dOd D c else 0)) ∧ (∀ c d, c < 8 → d < 4 → st.2 144 (4 * c + d) = lN (if c = 0 then 0 else pend (dOr D) (dWk D) (dDl D c).toNatClampNeg c d)) ∧ (∀ s, s < 8 → st.2 146 s = lN (dSn D s)) ∧ (∀ s, s < 8 → st.2 147 s = lN (if dWk D = 0 then 0 else dSe D (dWk D - 1) s) ∧ st.2 148 s = lN (if dWk D = 0 then 0 else dOr D (dWk D - 1) s)) ∧ (∀ s, s < 8 → st.2 145 s = cst s) ∧ (∀ s u, s < 8 → u < dWk D → dWk D ≤ u + 40 → st.2 149 (40 * s + u % 40) = lN (dSe D u s) ∧ st.2 150 (40 * s + u % 40) = lN (dOr D u s)) ∧ ∀ s r, s < 8 → dWk D ≤ r → r < 40 → st.2 149 (40 * s + r) = 0 ∧ st.2 150 (40 * s + r) = 0
theorem m_goesByF (n R md sd : Nat) (hn : 2 ^ 27 ≤ n) (D : WD) (E : PD) (hD : PFl D) (hE : PPl E (dN D) R) (cst : Nat → Int64) (dm : Nat → Nat) (st : St) (hP : MP st D) (hQ : MQ2 st E R) (hdm : ∀ s, s < dN D → dKd D s = 3 → st.1 140 s = nI (dDm D s)) (hF : MFl st D md sd cst) : ∃ st1, fX11_goesBy n st = some (nI (sdW D), st1) ∧ MFl st1 (nxD D E dm) (md + oW D E 0) (sd + sdW D) (cstW D E cst) ∧ (∀ s, s < dN D → st1.1 140 s = 0) ∧ ∀ s, dN D ≤ s → st1.1 140 s = st.1 140 s := by
  have hN := hD.1.1
  have hN1 := hD.1.2.1
  have hw := hD.1.2.2.2
  have hn2 : 200 ≤ n := by omega
  obtain ⟨⟨fw, fm, fd⟩, fM, f2, f4, f6, f78, f5, f90, fz⟩ := hF
  simp only [fX11_goesBy, fX11_goesBy_s0]
  obtain ⟨s1, a0, a1, a2, a3, a4, a5⟩ := m_ph1 n hn2 D hD 0 n 0 st (by omega) (by omega) hP ⟨fun s hs => by rw [mx_ge (Nat.zero_le _)]; exact fM.1 s hs, fun s i hs hi => by rw [mx_ge (Nat.zero_le _)]; exact fM.2 s i hs hi⟩ (fun s hs => absurd hs (by omega))
  rw [show nI 0 = 0 from rfl] at a0
  rw [a0]
  have M1a := M1.all hD a3
  simp only [fX11_goesBy_s100]
  have seN : ∀ s, dN D ≤ s → s < 8 → ∀ u, dSe D u s = 0 ∧ dOr D u s = 0 := fun s h1 h2 u => ⟨((hD.2.2.2.1 s h1 h2).2.2.2.2.2 u).2, ((hD.2.2.2.1 s h1 h2).2.2.2.2.2 u).1⟩
  obtain ⟨s2, b0, b1, b2, b3⟩ := m_ph2 n hn2 D hD 0 n 0 s1 (by omega) (by omega) (hP.k (fun o _ _ => by rw [a1])) (fun s hs h3 => by rw [a1]; exact hdm s hs h3) ⟨fun s c hs hc => by
    rw [a2 142 (by decide) (by decide) (by decide), f2 s c hs hc]
    congr 1, fun s hs => by
    rw [if_neg (by omega)]
    by_cases q : s < dN D
    · rw [a4 s q]; rfl
    · rw [a5 s (by omega), (f78 s hs).1, (seN s (by omega) hs _).1]; split <;> rfl, fun c d hc hd => by
    rw [a2 144 (by decide) (by decide) (by decide), f4 c d hc hd, if_neg (show ¬ c < 0 by omega)]⟩
  rw [show nI 0 = 0 from rfl] at b0
  rw [b0]
  obtain ⟨c2, c7, c4⟩ := M2.all hD b3
  simp only [fX11_goesBy_s269]
  have J2 : ∀ o, o ≠ 141 → o ≠ 143 → o ≠ 147 → o ≠ 142 → o ≠ 144 → s2.2 o = st.2 o := fun o o1 o2 o3 o4 o5 => by rw [b2 o o4 o3 o5, a2 o o1 o2 o3]
  obtain ⟨s3, d0, d1, d2, d3⟩ := m_ph3 n hn D hD n 0 s2 (by omega) (by omega) (hP.k (fun o _ _ => by rw [b1, a1])) ⟨fun s c hs hc => by rw [c2 s c hs hc, if_neg (by omega)]; rfl, fun s hs => by rw [b2 141 (by decide) (by decide) (by decide), mx_ge (Nat.zero_le _)]; exact M1a.1 s hs, fun s hs => by rw [J2 146 (by decide) (by decide) (by decide) (by decide) (by decide), mx_ge (Nat.zero_le _)]; exact f6 s hs, fun c i hc hi => by
    rw [b2 143 (by decide) (by decide) (by decide), M1a.2 c i hc hi]
    congr 1
    have : dvK D 0 c = 0 := by unfold dvK; rw [if_neg (by omega)]
    rw [this]; split <;> rfl⟩
  rw [show nI 0 = 0 from rfl, show lN (sumN (fun s => shA D s s) 0) = 0 from rfl] at d0
  rw [d0]
  obtain ⟨e2, e1, e6, eS⟩ := d3
  simp only [fX11_goesBy_s293]
  have I3 : s3.1 = st.1 := by rw [d1, b1, a1]
  have g1 : ∀ s, s < 8 → s3.2 141 s = lN (stkB D s) := fun s hs => by rw [e1 s hs, w_mxS hD hs]
  have g2 : ∀ s c, s < 8 → c < 8 → s3.2 142 (8 * s + c) = lN (mmA D s c - shA D s c) := fun s c hs hc => by
    rw [e2 s c hs hc]
    by_cases q : s < dN D
    · rw [if_pos q]
    · rw [if_neg q]
      have : mmA D s c = 0 := by
        unfold mmA
        rw [w_osN hD (by omega) hs, if_neg (w_cuN hD (by omega) hs)]
        split <;> rfl
      rw [this]
      congr 1
      omega
  have J3 : ∀ o, o ≠ 141 → o ≠ 142 → o ≠ 143 → o ≠ 146 → o ≠ 151 → o ≠ 152 → s3.2 o = s2.2 o := d2
  obtain ⟨s4, k0, k1, k2, k3, k4, k5, k6⟩ := m_ph4 n R md hn2 D E hD hE (lN (sdW D)) n 0 s3 (by omega) (by omega) (hP.k (fun o _ _ => by rw [I3])) (hQ.k (fun o _ _ => by rw [I3])) (by rw [I3]; exact fw) g1 g2 (fun s hs => by rw [J3 147 (by decide) (by decide) (by decide) (by decide) (by decide) (by decide)]; exact c7 s hs) (fun u s hs hu huw => by rw [J3 149 (by decide) (by decide) (by decide) (by decide) (by decide) (by decide), J2 149 (by decide) (by decide) (by decide) (by decide) (by decide)]; exact (f90 s u hs hu (by omega)).1) ⟨fun s hs => absurd hs (by omega), fun c d hc hd => by
    rw [J3 144 (by decide) (by decide) (by decide) (by decide) (by decide) (by decide), c4 c d hc hd]
    unfold gvN
    congr 1, fun c i hc hi => by rw [eS c i hc hi, w_dvN hD hc, if_neg (show ¬ (0 < 0 ∧ c = 0 ∧ i + 1 = (dWy D 0).toNatClampNeg) by omega)]; rfl, by rw [J3 130 (by decide) (by decide) (by decide) (by decide) (by decide) (by decide), J2 130 (by decide) (by decide) (by decide) (by decide) (by decide), fm, if_neg (by omega)]; rfl⟩
  rw [show nI 0 = 0 from rfl] at k0
  rw [k0]
  simp only [fX11_goesBy_s360]
  have J4 : ∀ o, o ≠ 130 → o ≠ 143 → o ≠ 144 → o ≠ 148 → o ≠ 149 → o ≠ 150 → o ≠ 158 → s4.2 o = s3.2 o := k3
  have I4 : s4.1 = st.1 := k1.trans I3
  obtain ⟨s5, p0, p1, p2, p3, p4, p5⟩ := m_ph5 n R hn2 D E hD hE cst (lN (sdW D)) n 0 s4 (by omega) (by omega) (hP.k (fun o _ _ => by rw [I4])) (hQ.k (fun o _ _ => by rw [I4])) (fun s hs => by rw [J4 141 (by decide) (by decide) (by decide) (by decide) (by decide) (by decide) (by decide)]; exact g1 s hs) (fun s c hs hc => by rw [J4 142 (by decide) (by decide) (by decide) (by decide) (by decide) (by decide) (by decide)]; exact g2 s c hs hc) (fun s hs => by rw [J4 145 (by decide) (by decide) (by decide) (by decide) (by decide) (by decide) (by decide), J3 145 (by decide) (by decide) (by decide) (by decide) (by decide) (by decide), J2 145 (by decide) (by decide) (by decide) (by decide) (by decide), mx_ge (Nat.zero_le _)]; exact f5 s hs) (fun s hs => absurd hs (by omega))
  rw [show nI 0 = 0 from rfl] at p0
  rw [p0]
  have w5 : s5.1 130 12 = nI (dWk D) := by rw [p1 130 (by decide), I4]; exact fw
  have d5 : s5.2 130 14 = lN sd := by rw [p2 130 (by decide), k4, J3 130 (by decide) (by decide) (by decide) (by decide) (by decide) (by decide), J2 130 (by decide) (by decide) (by decide) (by decide) (by decide)]; exact fd
  simp only [fX11_goesBy_s420, w5, nI_1, fX11_goesBy_s430, sI_2, d5, lN_add, fX11_goesBy_s440, lN_i]
  obtain ⟨X, eX⟩ : ∃ X, X = setJ (setI s5 130 12 (nI (dWk D + 1))) 130 14 (lN (sd + sdW D)) := ⟨_, rfl⟩
  rw [← eX]
  have xI : ∀ o, o ≠ 130 → X.1 o = s5.1 o := fun o ho => by rw [eX, sJ_1, sI_o ho]
  have xJ : ∀ o, o ≠ 130 → X.2 o = s5.2 o := fun o ho => by rw [eX, sJ_o ho, sI_2]
  have xJ4 : ∀ o, o ≠ 130 → o ≠ 145 → X.2 o = s4.2 o := fun o ho h5 => by rw [xJ o ho, p2 o h5]
  obtain ⟨q0, q4, q3, q13⟩ := k2
  refine ⟨X, rfl, ⟨⟨by rw [eX, sJ_1, sI_at]; rfl, ?_, by rw [eX, sJ_at]⟩, ⟨fun s hs => ?_, fun c i hc hi => ?_⟩, fun s c hs hc => ?_, fun c d hc hd => ?_, fun s hs => ?_, fun s hs => ?_, fun s hs => by rw [xJ 145 (by decide)]; exact p3 s hs, fun s u hs hu huw => ?_, fun s r hs hr hr4 => ?_⟩, fun s hs => by rw [xI 140 (by decide)]; exact p4 s hs, fun s hs => by rw [xI 140 (by decide), p5 s hs, I4]⟩
  · rw [eX, sJ_k (by decide), sI_2, p2 130 (by decide), q13, if_pos (by omega)]
  · rw [xJ4 141 (by decide) (by decide), J4 141 (by decide) (by decide) (by decide) (by decide) (by decide) (by decide) (by decide)]; exact g1 s hs
  · rw [xJ4 143 (by decide) (by decide), q3 c i hc hi]
    congr 1
    show _ = sltC D (oW D E) c i
    unfold sltC
    congr 1
    by_cases z : c = 0 ∧ i + 1 = (dWy D 0).toNatClampNeg
    · rw [if_pos ⟨by omega, z⟩, if_pos z]
    · rw [if_neg (fun w => z w.2), if_neg z]
  · rw [xJ4 142 (by decide) (by decide), J4 142 (by decide) (by decide) (by decide) (by decide) (by decide) (by decide) (by decide), g2 s c hs hc]
    congr 1
    show _ = if c = s then osB D s else if cu D s c then odB D c else 0
    by_cases w : c = s
    · subst w; rw [if_pos rfl]; unfold osB mmA; rw [if_pos rfl]
    · rw [if_neg w]
      by_cases x : cu D s c
      · rw [if_pos x]
        unfold odB
        rw [w_gt hD hs x]
        congr 1
        unfold mmA
        rw [if_neg w, if_pos x]
      · rw [if_neg x]
        have : mmA D s c = 0 := by unfold mmA; rw [if_neg w, if_neg x]
        omega
  · rw [xJ4 144 (by decide) (by decide), q4 c d hc hd]
    congr 1
    show gvN D E (dN D) c d = if c = 0 then 0 else pend (orC D (oW D E)) (dWk D + 1) (dDl D c).toNatClampNeg c d
    unfold gvN
    by_cases w : c = 0
    · rw [if_pos w, if_pos w]
    · rw [if_neg w, if_neg w]
      by_cases x : c < dN D
      · rw [pend_nx (oW D E) x]
        congr 1
        by_cases y : d = (dDl D c).toNatClampNeg
        · rw [if_pos ⟨x, y⟩, if_pos y]
        · rw [if_neg (fun t => y t.2), if_neg y]
      · rw [if_neg (fun t => x t.1)]
        have h0 := fun u => (seN c (by omega) hc u).2
        have r0 : pend (dOr D) (dWk D) (dDl D c).toNatClampNeg c (d + 1) = 0 := by
          unfold pend
          split
          · exact h0 _
          · rfl
        have r1 : pend (orC D (oW D E)) (dWk D + 1) (dDl D c).toNatClampNeg c d = 0 := by
          unfold pend orC
          split
          · split
            · first | rfl | rw [if_neg x]
            · exact h0 _
          · rfl
        rw [r0, r1]
  · rw [xJ4 146 (by decide) (by decide), J4 146 (by decide) (by decide) (by decide) (by decide) (by decide) (by decide) (by decide), e6 s hs, w_mxT hD hs]
    rfl
  · show X.2 147 s = lN (if dWk D + 1 = 0 then 0 else seB D (dWk D + 1 - 1) s) ∧ X.2 148 s = lN (if dWk D + 1 = 0 then 0 else orC D (oW D E) (dWk D + 1 - 1) s)
    rw [if_neg (by omega), if_neg (by omega), Nat.add_sub_cancel]
    unfold seB orC
    rw [if_pos rfl, if_pos rfl]
    refine ⟨?_, ?_⟩
    · rw [xJ4 147 (by decide) (by decide), J4 147 (by decide) (by decide) (by decide) (by decide) (by decide) (by decide) (by decide), J3 147 (by decide) (by decide) (by decide) (by decide) (by decide) (by decide)]; exact c7 s hs
    · rw [xJ4 148 (by decide) (by decide)]
      by_cases x : s < dN D
      · rw [if_pos x]; exact (q0 s x).2.2
      · rw [if_neg x, k5 s (by omega), J3 148 (by decide) (by decide) (by decide) (by decide) (by decide) (by decide), J2 148 (by decide) (by decide) (by decide) (by decide) (by decide), (f78 s hs).2, (seN s (by omega) hs _).2]
        split <;> rfl
  · have hu' : u < dWk D + 1 := hu
    have huw' : dWk D + 1 ≤ u + 40 := huw
    show X.2 149 (40 * s + u % 40) = lN (seB D u s) ∧ X.2 150 (40 * s + u % 40) = lN (orC D (oW D E) u s)
    rw [xJ4 149 (by decide) (by decide), xJ4 150 (by decide) (by decide)]
    have old : ((u % 40 ≠ dWk D % 40) ∨ dN D ≤ s) → s4.2 149 (40 * s + u % 40) = st.2 149 (40 * s + u % 40) ∧ s4.2 150 (40 * s + u % 40) = st.2 150 (40 * s + u % 40) := fun h => by
      obtain ⟨t1, t2⟩ := k6 s (u % 40) hs (by omega) h
      rw [t1, t2, J3 149 (by decide) (by decide) (by decide) (by decide) (by decide) (by decide), J2 149 (by decide) (by decide) (by decide) (by decide) (by decide), J3 150 (by decide) (by decide) (by decide) (by decide) (by decide) (by decide), J2 150 (by decide) (by decide) (by decide) (by decide) (by decide)]
      exact ⟨rfl, rfl⟩
    unfold seB orC
    by_cases z : u = dWk D
    · subst z
      rw [if_pos rfl, if_pos rfl]
      by_cases x : s < dN D
      · rw [if_pos x]; exact ⟨(q0 s x).1, (q0 s x).2.1⟩
      · obtain ⟨t1, t2⟩ := old (Or.inr (by omega))
        rw [t1, t2, if_neg x, w_snN hD (by omega) hs]
        by_cases y : dWk D < 40
        · rw [Nat.mod_eq_of_lt y]; exact fz s _ hs (Nat.le_refl _) y
        · have := f90 s (dWk D - 40) hs (by omega) (by omega)
          rw [(seN s (by omega) hs _).1, (seN s (by omega) hs _).2, show (dWk D - 40) % 40 = dWk D % 40 by omega] at this
          exact this
    · obtain ⟨t1, t2⟩ := old (Or.inl (by omega))
      rw [t1, t2, if_neg z, if_neg z]
      exact f90 s u hs (by omega) (by omega)
  · have hr' : dWk D + 1 ≤ r := hr
    obtain ⟨t1, t2⟩ := k6 s r hs hr4 (Or.inl (by omega))
    rw [xJ4 149 (by decide) (by decide), xJ4 150 (by decide) (by decide), t1, t2, J3 149 (by decide) (by decide) (by decide) (by decide) (by decide) (by decide), J2 149 (by decide) (by decide) (by decide) (by decide) (by decide), J3 150 (by decide) (by decide) (by decide) (by decide) (by decide) (by decide), J2 150 (by decide) (by decide) (by decide) (by decide) (by decide)]
    exact fz s r hs (by omega) hr4
