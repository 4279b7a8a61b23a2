/-! ===== the class's week: orders are given, costs come ===== -/
def ordN (x L C : Nat) : Nat := if C < (x + L - 1) / L * L then C else (x + L - 1) / L * L
theorem ord_le (x L C : Nat) : ordN x L C ≤ C := by unfold ordN; split <;> omega
theorem bnd_le {v : Int64} (h : bndJ v = v) : -1000000000 ≤ v ∧ v ≤ 1000000000 := by
  unfold bndJ at h
  by_cases q : v ≤ 1000000000
  · rw [if_pos q] at h
    by_cases r : -1000000000 ≤ v
    · exact ⟨r, q⟩
    · rw [if_neg r] at h; exact absurd (by rw [← h]; exact Int64.le_refl _) r
  · rw [if_neg q] at h; exact absurd (by rw [← h]; exact Int64.le_refl _) q
theorem bnd_x {v : Int64} (h : bndJ v = v) : (if v < 0 then 0 else v) = lN v.toInt.toNat ∧ v.toInt.toNat ≤ 1000000000 ∧ (¬ 0 ≤ v → v.toInt.toNat = 0) := by
  obtain ⟨h1, h2⟩ := bnd_le h
  rw [Int64.le_iff_toInt_le] at h1 h2
  have e1 : (-1000000000 : Int64).toInt = -1000000000 := rfl
  have e2 : (1000000000 : Int64).toInt = 1000000000 := rfl
  have e0 : (0 : Int64).toInt = 0 := rfl
  refine ⟨?_, by omega, fun q => ?_⟩
  · by_cases q : v < 0
    · rw [if_pos q]
      rw [Int64.lt_iff_toInt_lt] at q
      rw [show v.toInt.toNat = 0 by omega]; rfl
    · rw [if_neg q, ← Int64.toInt_inj, lN_toInt (by omega)]
      rw [Int64.lt_iff_toInt_lt] at q
      omega
  · rw [Int64.le_iff_toInt_le] at q; omega
theorem ord_mul (x L : Nat) (hx : x ≤ 1000000000) (h1 : 1 ≤ L) (h50 : L ≤ 50) : (lN x + lN L - 1) / lN L * lN L = lN ((x + L - 1) / L * L) ∧ (x + L - 1) / L * L ≤ 1000000050 := by
  have hle := Nat.div_mul_le_self (x + L - 1) L
  refine ⟨?_, by omega⟩
  rw [lN_add, show (1 : Int64) = lN 1 from rfl, lN_sub (by omega), pk_lDiv (by omega) (by omega) (by omega), lN_mul]
theorem bnd_idem (v : Int64) : bndJ (bndJ v) = bndJ v := by
  apply bnd_id
  · unfold bndJ
    split
    · split
      · assumption
      · exact Int64.le_refl _
    · decide
  · unfold bndJ
    split
    · split
      · assumption
      · decide
    · exact Int64.le_refl _
theorem num_bnd {v : Nat} (h : v ≤ 9999) : bndJ (nI v).toInt64 = (nI v).toInt64 := by
  rw [nI_l (by omega)]
  refine bnd_id ?_ ?_
  · rw [Int64.le_iff_toInt_le, lN_toInt (by omega)]; have : (-1000000000 : Int64).toInt = -1000000000 := rfl; omega
  · rw [Int64.le_iff_toInt_le, lN_toInt (by omega)]; have : (1000000000 : Int64).toInt = 1000000000 := rfl; omega
theorem ev_bd (Fd : Nat → Int64) (hB : ∀ g, g ≤ 6 → bndJ (Fd g) = Fd g) (f : Nat → Int32) : ∀ k, (∀ j, j < k → ∃ m, stepR (f j) m) → ∀ v, v ∈ evL Fd f k → bndJ v = v := by
  intro k
  induction k with
  | zero => intro _ v hv; rw [evL] at hv; exact absurd hv (by simp)
  | succ k ih =>
    intro hst v hv
    have ih' := ih (fun j hj => hst j (by omega))
    rw [evL] at hv
    obtain ⟨m, hm⟩ := hst k (by omega)
    rcases step_two hm with ⟨h8, hp⟩ | ⟨h8, hdd⟩
    · rw [if_pos h8] at hv
      rcases List.mem_cons.mp hv with hv | hv
      · rw [hv]
        rcases hp with ⟨x, hx, ec, -⟩ | ⟨g, hg, ec, -⟩
        · rw [ec, psh_num Fd hx]; exact num_bnd hx
        · rw [ec, psh_fld Fd hg]; exact hB g hg
      · exact ih' v hv
    · rw [if_neg h8] at hv
      match hE : evL Fd f k with
      | [] => rw [hE] at hv; exact absurd hv (by simp)
      | [a] => rw [hE] at hv; exact ih' v (by rw [hE]; exact hv)
      | y :: x :: S =>
        rw [hE] at hv
        rcases List.mem_cons.mp hv with hv | hv
        · rw [hv]; exact bnd_idem _
        · exact ih' v (by rw [hE]; exact List.mem_cons_of_mem _ (List.mem_cons_of_mem _ hv))
theorem vl_bd (Fd : Nat → Int64) (hB : ∀ g, g ≤ 6 → bndJ (Fd g) = Fd g) (f : Nat → Int32) (k : Nat) (hst : ∀ j, j < k → ∃ m, stepR (f j) m) : bndJ (vlJ Fd f k) = vlJ Fd f k := by
  unfold vlJ
  match hE : evL Fd f k with
  | [] => decide
  | v :: S => exact ev_bd Fd hB f k hst v (by rw [hE]; exact List.mem_cons_self)
/-! the rest of the plan: rules, lots, caps, costs -/
abbrev PD : Type := (Nat → Int32) × (Nat → Int32) × (Nat → Nat) × (Nat → Int32) × (Nat → Int32) × (Nat → Int32) × (Nat → Int32)
def pRl (E : PD) : Nat → Int32 := E.1
def pSt (E : PD) : Nat → Int32 := E.2.1
def pLn (E : PD) : Nat → Nat := E.2.2.1
def pLt (E : PD) : Nat → Int32 := E.2.2.2.1
def pCp (E : PD) : Nat → Int32 := E.2.2.2.2.1
def pHd (E : PD) : Nat → Int32 := E.2.2.2.2.2.1
def pLk (E : PD) : Nat → Int32 := E.2.2.2.2.2.2
def PPl (E : PD) (N R : Nat) : Prop := R ≤ 12 ∧ (∀ s, s < N → (pRl E s = -1 ∨ ∃ r, r < R ∧ pRl E s = nI r) ∧ (∃ v, 1 ≤ v ∧ v ≤ 50 ∧ pLt E s = nI v) ∧ (∃ v, 1 ≤ v ∧ v ≤ 9999 ∧ pCp E s = nI v) ∧ (∃ v, v ≤ 99 ∧ pHd E s = nI v) ∧ ∃ v, v ≤ 99 ∧ pLk E s = nI v) ∧ ∀ r, r < R → pLn E r ≤ 120 ∧ (∀ j, j < pLn E r → ∃ m, stepR (pSt E (120 * r + j)) m) ∧ deepOf (fun j => pSt E (120 * r + j)) (pLn E r) = some 1
def CQ (st : St) (E : PD) (R : Nat) : Prop := st.1 10 = pRl E ∧ st.1 6 = pLt E ∧ st.1 7 = pCp E ∧ st.1 8 = pHd E ∧ st.1 9 = pLk E ∧ st.1 12 = pSt E ∧ st.1 11 3 = nI R ∧ ∀ r, r < R → st.1 13 r = nI (pLn E r)
theorem CQ.k {st st1 : St} {E : PD} {R : Nat} (h : CQ st E R) (k : ∀ o, o < 14 → st1.1 o = st.1 o) : CQ st1 E R := by
  unfold CQ at h ⊢
  rw [k 10 (by omega), k 6 (by omega), k 7 (by omega), k 8 (by omega), k 9 (by omega), k 12 (by omega), k 11 (by omega), k 13 (by omega)]
  exact h
noncomputable def fdW (D : WD) (s : Nat) : Nat → Int64 := FdV (dWk D + 1) (stkB D s) (owB D s) (sumN (sltB D s) 6) (unB D s) (fun u => seB D u s)
noncomputable def vW (D : WD) (E : PD) (s : Nat) : Int64 := if pRl E s = -1 then 0 else vlJ (fdW D s) (fun j => pSt E (120 * (pRl E s).toNatClampNeg + j)) (pLn E (pRl E s).toNatClampNeg)
noncomputable def oW (D : WD) (E : PD) (s : Nat) : Nat := ordN (vW D E s).toInt.toNat (pLt E s).toNatClampNeg (pCp E s).toNatClampNeg
noncomputable def cW (D : WD) (E : PD) (s : Nat) : Nat := (pHd E s).toNatClampNeg * stkB D s + (pLk E s).toNatClampNeg * owB D s
theorem w_sn {D : WD} (hD : PFl D) {s : Nat} (hs : s < 8) : snA D s ≤ 70992 := by
  unfold snA
  have h1 := w_dm hD hs
  rw [sumN_front (cgA D s) 7]
  have h0 : cgA D s 0 = 0 := by unfold cgA; rw [if_neg (fun q => q.2.1 rfl)]
  have := sumN_bd (f := fun i => cgA D s (i + 1)) (B := 9999) 7 (fun i _ => by
    show cgA D s (i + 1) ≤ 9999
    unfold cgA
    split
    · exact w_g hD _
    · omega)
  omega
theorem w_se {D : WD} (hD : PFl D) {s : Nat} (hs : s < 8) (u : Nat) : seB D u s ≤ 79992 := by
  unfold seB
  split
  · have := w_sn hD hs; omega
  · exact hD.2.2.2.2.2.2.2.2.2.2.1 u s
theorem w_slB {D : WD} (hD : PFl D) {c : Nat} (hc : c < 8) : sumN (sltB D c) 6 = sumN (sltA D c) 6 + gtA D c := by
  by_cases q : c < dN D
  · obtain ⟨y, h1, h6, -, cy⟩ := w_wy hD q
    refine sumN_set (f := sltA D c) (g := sltB D c) (j := y - 1) (d := gtA D c) ?_ (fun i hi => ?_) 6 (by omega)
    · unfold sltB; rw [cy, if_pos (by omega)]
    · unfold sltB; rw [cy, if_neg (by omega)]; rfl
  · have hg : gtA D c = 0 := w_gt0 D (by omega)
    rw [hg]
    exact sumN_congr 6 (fun i _ => by unfold sltB; rw [hg]; split <;> rfl)
theorem w_slA {D : WD} (hD : PFl D) {c : Nat} (hc : c < 8) : sumN (sltA D c) 6 ≤ 4079592 := by
  rw [sltA_sum]
  have := hD.2.2.2.2.2.2.1 c hc
  omega
theorem w_fd {D : WD} (hD : PFl D) {s : Nat} (hs : s < 8) : stkB D s < 2 ^ 27 ∧ owB D s < 2 ^ 27 ∧ sumN (sltB D s) 6 < 2 ^ 27 ∧ unB D s < 2 ^ 27 := by
  have h1 := w_stk hD hs
  have h2 := w_ow hD hs
  have h3 := w_slA hD hs
  have h4 := w_gto hD s
  have h5 := w_od hD s
  have h6 := w_un hD s
  rw [w_slB hD hs]
  unfold stkB owB unB
  omega
theorem w_fdb {D : WD} (hD : PFl D) {s : Nat} (hs : s < 8) : ∀ g, g ≤ 6 → bndJ (fdW D s g) = fdW D s g := by
  obtain ⟨h1, h2, h3, h4⟩ := w_fd hD hs
  have := hD.1.2.2.2
  exact FdV_bd (dWk D + 1) _ _ _ _ _ (by omega) (fun u => w_se hD hs u) h1 h2 h3 h4
theorem w_v {D : WD} {E : PD} {R : Nat} (hD : PFl D) (hE : PPl E (dN D) R) {s : Nat} (hs : s < dN D) : bndJ (vW D E s) = vW D E s := by
  have hN := hD.1.1
  unfold vW
  rcases (hE.2.1 s hs).1 with h | ⟨r, hr, h⟩
  · rw [if_pos h]; decide
  · have hR := hE.1
    rw [if_neg (by rw [h]; intro w; have := congrArg Int32.toInt w; rw [nI_toInt (by omega)] at this; have e : (-1 : Int32).toInt = -1 := rfl; omega), h, nI_clamp (by omega)]
    exact vl_bd _ (w_fdb hD (by omega)) _ _ (hE.2.2 r hr).2.1
theorem w_o {D : WD} {E : PD} {R : Nat} (hE : PPl E (dN D) R) {s : Nat} (hs : s < dN D) : oW D E s ≤ 9999 := by
  obtain ⟨-, -, ⟨C, h1, h2, e⟩, -⟩ := hE.2.1 s hs
  unfold oW
  rw [e, nI_clamp (by omega)]
  have := ord_le (vW D E s).toInt.toNat (pLt E s).toNatClampNeg C
  omega
theorem c_p108 (n b b4 s R : Nat) (hn : 200 ≤ n) (D : WD) (E : PD) (hD : PFl D) (hE : PPl E (dN D) R) (hs : s < dN D) (K : Int64 → Int32 → St → Option (Int32 × St)) (v5 : Int64) (st : St) (hQ : CQ st E R) (hC : CE st b s (dWk D + 1) (stkB D s) (owB D s) (sumN (sltB D s) 6) (unB D s) (fun u => seB D u s)) : ∃ st1, fX1_pass_s108 n K b b4 v5 (nI s) st = (fX1_give n b (nI s) (vW D E s) st1).bind (fun q => fX1_pass_s147 n K b b4 v5 (nI s) q.2) ∧ kJ1 14 st st1 := by
  have hN := hD.1.1
  have hw := hD.1.2.2.2
  have hs8 : s < 8 := by omega
  have i1 : inb (nI s) 8 = true := inb_nI (by omega) (by decide)
  have c1 : (nI s).toNatClampNeg = s := nI_clamp (by omega)
  simp only [fX1_pass_s108, i1, c1, if_true, phasR, Option.bind_some, hQ.1, hQ.2.2.2.2.2.2.1, fX1_pass_s123]
  obtain ⟨f1, f2, f3, f4⟩ := w_fd hD hs8
  have hR := hE.1
  rcases (hE.2.1 s hs).1 with h | ⟨r, hr, h⟩
  · rw [h, b1_neg (fun w : (0 : Int32) ≤ -1 ∧ -1 < nI R => absurd w.1 (by decide)), if_pos rfl]
    refine ⟨st, ?_, kJ1.rf _ _⟩
    simp only [fX1_pass_s143, fX1_pass_s144, vW, h, if_true]
  · have hne : ¬ pRl E s = -1 := by rw [h]; intro w; have := congrArg Int32.toInt w; rw [nI_toInt (by omega)] at this; have e : (-1 : Int32).toInt = -1 := rfl; omega
    obtain ⟨hl, hst, hdp⟩ := hE.2.2 r hr
    obtain ⟨st1, e1, k1⟩ := c_value n b r s (pLn E r) hn (by omega) st (fdW D s) (fun j => pSt E (120 * r + j)) hl (fun j hj => by rw [hQ.2.2.2.2.2.1]) hst (hQ.2.2.2.2.2.2.2 r hr) hdp (fun st' k' => c_field n b s (dWk D + 1) _ _ _ _ _ hn hs8 (by omega) (fun u => w_se hD hs8 u) (by omega) (by omega) (by omega) (by omega) st' (hC.k k'.1))
    have ev : vW D E s = vlJ (fdW D s) (fun j => pSt E (120 * r + j)) (pLn E r) := by unfold vW; rw [if_neg hne, h, nI_clamp (by omega)]
    refine ⟨st1, ?_, k1⟩
    rw [h, b1_pos (st_to (show R < 2 ^ 31 by omega) hr), if_neg (show ¬ (1 : Int32) = 0 by decide)]
    simp only [fX1_pass_s126, i1, c1, if_true, hQ.1, h, e1, Option.bind_some, fX1_pass_s140, fX1_pass_s144, ev]
theorem c_ordE (v : Int64) (L C : Nat) (hv : bndJ v = v) (h1 : 1 ≤ L) (h50 : L ≤ 50) (hC : C ≤ 9999) : (if (nI C).toInt64 < ((((if v < 0 then 0 else v) + (nI L).toInt64) - 1) / (nI L).toInt64) * (nI L).toInt64 then (nI C).toInt64 else ((((if v < 0 then 0 else v) + (nI L).toInt64) - 1) / (nI L).toInt64) * (nI L).toInt64).toInt32 = nI (ordN v.toInt.toNat L C) := by
  obtain ⟨e1, e2, -⟩ := bnd_x hv
  obtain ⟨m1, m2⟩ := ord_mul v.toInt.toNat L e2 h1 h50
  rw [e1, nI_l (show L < 2 ^ 31 by omega), m1, nI_l (show C < 2 ^ 31 by omega)]
  unfold ordN
  by_cases q : C < (v.toInt.toNat + L - 1) / L * L
  · rw [if_pos q, if_pos ((pk_lLT (by omega) (by omega)).mpr q), lN_i]
  · rw [if_neg q, if_neg (fun w => q ((pk_lLT (by omega) (by omega)).mp w)), lN_i]
theorem c_give (n b s : Nat) (D : WD) (E : PD) (R : Nat) (hD : PFl D) (hE : PPl E (dN D) R) (hs : s < dN D) (st : St) (hC : CP st D) (hQ : CQ st E R) (ew : st.1 b 10 = nI (dWk D + 1)) (hb : 53 ≤ b) : fX1_give n b (nI s) (vW D E s) st = some ((), if s = 0 then setI (setI (setJ (setI st (b + 9) (4 * s + dWk D % 4) (nI (oW D E s))) b 11 (st.2 b 11 + lN (oW D E s))) (b + 2) (6 * s + ((dWy D s).toNatClampNeg - 1)) (st.1 (b + 2) (6 * s + ((dWy D s).toNatClampNeg - 1)) + nI (oW D E s))) (b + 3) s (st.1 (b + 3) s + nI (oW D E s)) else setI (setI st (b + 9) (4 * s + dWk D % 4) (nI (oW D E s))) (b + 6) s (st.1 (b + 6) s + nI (oW D E s))) := by
  have hN := hD.1.1
  have hw := hD.1.2.2.2
  have i1 : inb (nI s) 8 = true := inb_nI (by omega) (by decide)
  have c1 : (nI s).toNatClampNeg = s := nI_clamp (by omega)
  obtain ⟨-, ⟨L, hL1, hL50, eL⟩, ⟨C, hC1, hC9, eC⟩, -, -⟩ := hE.2.1 s hs
  have i2 : inb (nI (4 * s + dWk D % 4)) 32 = true := inb_nI (by omega) (by decide)
  have c2 : (nI (4 * s + dWk D % 4)).toNatClampNeg = 4 * s + dWk D % 4 := nI_clamp (by omega)
  have eo : oW D E s = ordN (vW D E s).toInt.toNat L C := by unfold oW; rw [eL, eC, nI_clamp (by omega), nI_clamp (by omega)]
  have ho : oW D E s ≤ 9999 := w_o hE hs
  have e6 : st.1 6 s = nI L := by rw [hQ.2.1]; exact eL
  have e7 : st.1 7 s = nI C := by rw [hQ.2.2.1]; exact eC
  have emx : (if 1 < nI L then nI L else 1) = nI L := by
    by_cases q : 1 < nI L
    · rw [if_pos q]
    · rw [if_neg q]
      have : ¬ 1 < L := fun z => q (nI_lt (a := 1) z (by omega))
      rw [show L = 1 by omega]; rfl
  have en0 : ¬ (nI L).toInt64 = 0 := by rw [nI_l (by omega)]; intro w; have := fb0 (by omega) w; omega
  have hord := c_ordE (vW D E s) L C (w_v hD hE hs) hL1 hL50 hC9
  rw [← eo] at hord
  simp only [fX1_give, fX1_give_s0, i1, c1, if_true, e6, e7, emx, if_neg en0, ew, nI_pred, i4s s (dWk D) (by omega), i2, c2, hord, fX1_give_s65]
  have ek : (setI st (b + 9) (4 * s + dWk D % 4) (nI (oW D E s))).1 2 s = dKd D s := by rw [sI_o (show 2 ≠ b + 9 by omega), hC.2.1]
  rw [ek]
  by_cases z : s = 0
  · subst z
    rw [((hD.2.1 0 hs).1 rfl).1, if_pos rfl, if_pos rfl]
    obtain ⟨y, hy1, hy6, ey, cy⟩ := w_wy hD hs
    rw [cy]
    have e4 : ∀ v, (setJ (setI st (b + 9) (4 * 0 + dWk D % 4) (nI (oW D E 0))) b 11 v).1 4 0 = nI y := fun v => by rw [sJ_1, sI_o (show 4 ≠ b + 9 by omega), hC.2.2.2.1]; exact ey
    simp only [fX1_give_s74, fX1_give_s86, c_put n b 0 y (oW D E 0) _ (by decide) hy1 hy6 (e4 _), Option.bind_some, fX1_give_s94, fX1_give_s108]
    rw [sJ_1, sI_o (show b + 2 ≠ b + 9 by omega), sI_o (show b + 3 ≠ b + 9 by omega), sI_2, nI_l (show oW D E 0 < 2 ^ 31 by omega)]
  · obtain ⟨k, hk1, hk3, ekk⟩ := ((hD.2.1 s hs).2.1 z).1
    rw [ekk, if_neg (nI_ne0 (by omega) (by omega)), if_neg z]
    simp only [fX1_give_s97, i1, c1, if_true, fX1_give_s108]
    rw [sI_o (show b + 6 ≠ b + 9 by omega)]
def R4 (st : St) (b : Nat) (D : WD) (E : PD) (md : Nat) (cst : Nat → Int64) (k : Nat) : Prop := (∀ s, s < k → st.1 (b + 9) (4 * s + dWk D % 4) = nI (oW D E s)) ∧ (∀ c, c < 8 → st.1 (b + 6) c = nI (unB D c + (if c < k ∧ c ≠ 0 then oW D E c else 0))) ∧ (∀ c i, c < 8 → i < 6 → st.1 (b + 2) (6 * c + i) = nI (sltB D c i + (if 0 < k ∧ c = 0 ∧ i + 1 = (dWy D 0).toNatClampNeg then oW D E 0 else 0))) ∧ (∀ c, c < 8 → st.1 (b + 3) c = nI (sumN (sltB D c) 6 + (if 0 < k ∧ c = 0 then oW D E 0 else 0))) ∧ st.2 b 11 = lN (md + (if 0 < k then oW D E 0 else 0)) ∧ ∀ s, s < 8 → st.2 (b + 10) s = mx k (fun s => cst s + lN (cW D E s)) cst s
theorem c_ph4 (n b b4 R md : Nat) (hn : 200 ≤ n) (D : WD) (E : PD) (hb : 53 ≤ b) (hD : PFl D) (hE : PPl E (dN D) R) (cst : Nat → Int64) (v5 : Int64) : ∀ (j k : Nat) (st : St), k ≤ dN D → dN D - k < j → CP st D → CQ st E R → st.1 b 10 = nI (dWk D + 1) → (∀ s, s < 8 → st.1 (b + 1) s = nI (stkB D s)) → (∀ s, s < 8 → st.1 (b + 4) s = nI (owB D s)) → (∀ u s, s < dN D → u < dWk D + 1 → dWk D + 1 ≤ u + 4 → st.1 (b + 8) (4 * s + u % 4) = nI (seB D u s)) → R4 st b D E md cst k → ∃ st1, fX1_pass_L99 n b b4 j v5 (nI k) st = fX1_pass_s198 n b b4 v5 st1 ∧ R4 st1 b D E md cst (dN D) ∧ (∀ o, o ≠ b + 2 → o ≠ b + 3 → o ≠ b + 6 → o ≠ b + 9 → st1.1 o = st.1 o) ∧ st1.2 b 12 = st.2 b 12 ∧ ∀ s r, s < 8 → r < 4 → ((r ≠ dWk D % 4) ∨ dN D ≤ s) → st1.1 (b + 9) (4 * s + r) = st.1 (b + 9) (4 * s + r) := by
  have hN := hD.1.1
  have hw := hD.1.2.2.2
  intro j
  induction j with
  | zero => intro k st _ hj; omega
  | succ j ih =>
    intro k st hk hj hC hQ ew e1 e4 e8 hR
    simp only [fX1_pass_L99, fX1_pass_s99, hC.1]
    by_cases q : k = dN D
    · subst q
      rw [if_pos (Int32.le_refl _)]
      exact ⟨st, rfl, hR, fun _ _ _ _ _ => rfl, rfl, fun _ _ _ _ _ => rfl⟩
    · rw [if_neg (nI_ge (show k < dN D by omega) (by omega))]
      have hkN : k < dN D := by omega
      have hk8 : k < 8 := by omega
      have i1 : inb (nI k) 8 = true := inb_nI hk8 (by decide)
      have c1 : (nI k).toNatClampNeg = k := nI_clamp (by omega)
      obtain ⟨r9, r6, r2, r3, r11, r10⟩ := hR
      have hCE : CE st b k (dWk D + 1) (stkB D k) (owB D k) (sumN (sltB D k) 6) (unB D k) (fun u => seB D u k) := by
        refine ⟨e1 k hk8, e4 k hk8, ?_, ?_, ew, fun u hu hw => e8 u k hkN hu hw⟩
        · rw [r3 k hk8, if_neg (by omega)]; rfl
        · rw [r6 k hk8, if_neg (by omega)]; rfl
      obtain ⟨st1, g0, g1⟩ := c_p108 n b b4 k R hn D E hD hE hkN (fX1_pass_L99 n b b4 j) v5 st hQ hCE
      rw [g0]
      have hC1 : CP st1 D := hC.k (fun o _ => by rw [g1.1])
      have hQ1 : CQ st1 E R := hQ.k (fun o _ => by rw [g1.1])
      rw [c_give n b k D E R hD hE hkN st1 hC1 hQ1 (by rw [g1.1]; exact ew) hb]
      simp only [Option.bind_some]
      -- the state behind give
      have key : ∀ st2 : St, (∀ o, o ≠ b + 2 → o ≠ b + 3 → o ≠ b + 6 → o ≠ b + 9 → st2.1 o = st.1 o) → (∀ o, o ≠ b → o ≠ 14 → st2.2 o = st.2 o) → st2.2 b 12 = st.2 b 12 → st2.2 b 11 = lN (md + (if 0 < k + 1 then oW D E 0 else 0)) → (∀ s, s < k + 1 → st2.1 (b + 9) (4 * s + dWk D % 4) = nI (oW D E s)) → (∀ c, c < 8 → st2.1 (b + 6) c = nI (unB D c + (if c < k + 1 ∧ c ≠ 0 then oW D E c else 0))) → (∀ c i, c < 8 → i < 6 → st2.1 (b + 2) (6 * c + i) = nI (sltB D c i + (if 0 < k + 1 ∧ c = 0 ∧ i + 1 = (dWy D 0).toNatClampNeg then oW D E 0 else 0))) → (∀ c, c < 8 → st2.1 (b + 3) c = nI (sumN (sltB D c) 6 + (if 0 < k + 1 ∧ c = 0 then oW D E 0 else 0))) → (∀ s r, s < 8 → r < 4 → ((r ≠ dWk D % 4) ∨ dN D ≤ s) → st2.1 (b + 9) (4 * s + r) = st.1 (b + 9) (4 * s + r)) → ∃ st3, fX1_pass_s147 n (fX1_pass_L99 n b b4 j) b b4 v5 (nI k) st2 = fX1_pass_s198 n b b4 v5 st3 ∧ R4 st3 b D E md cst (dN D) ∧ (∀ o, o ≠ b + 2 → o ≠ b + 3 → o ≠ b + 6 → o ≠ b + 9 → st3.1 o = st.1 o) ∧ st3.2 b 12 = st.2 b 12 ∧ ∀ s r, s < 8 → r < 4 → ((r ≠ dWk D % 4) ∨ dN D ≤ s) → st3.1 (b + 9) (4 * s + r) = st.1 (b + 9) (4 * s + r) := by
        intro st2 f1 f2 f12 f11 f9 f6 fs2 f3 f9r
        obtain ⟨-, -, -, ⟨H, hH, eH⟩, ⟨Lk, hLk, eLk⟩⟩ := hE.2.1 k hkN
        have a8 : st2.1 8 k = nI H := by rw [f1 8 (by omega) (by omega) (by omega) (by omega), hQ.2.2.2.1]; exact eH
        have a9 : st2.1 9 k = nI Lk := by rw [f1 9 (by omega) (by omega) (by omega) (by omega), hQ.2.2.2.2.1]; exact eLk
        have a1 : st2.1 (b + 1) k = nI (stkB D k) := by rw [f1 _ (by omega) (by omega) (by omega) (by omega)]; exact e1 k hk8
        have a4 : st2.1 (b + 4) k = nI (owB D k) := by rw [f1 _ (by omega) (by omega) (by omega) (by omega)]; exact e4 k hk8
        obtain ⟨q1, q2, q3, q4⟩ := w_fd hD hk8
        have ec : (nI H).toInt64 * (nI (stkB D k)).toInt64 + (nI Lk).toInt64 * (nI (owB D k)).toInt64 = lN (cW D E k) := by
          rw [nI_l (by omega), nI_l (by omega), nI_l (by omega), nI_l (by omega), lN_mul, lN_mul, lN_add]
          unfold cW
          rw [eH, eLk, nI_clamp (by omega), nI_clamp (by omega)]
        simp only [fX1_pass_s147, i1, c1, if_true, a8, a9, a1, a4, ec, fX1_pass_s192, nI_1]
        have f10 : st2.2 (b + 10) = st.2 (b + 10) := f2 _ (by omega) (by omega)
        obtain ⟨st3, k0, k1, k2, k3, k4⟩ := ih (k + 1) (setJ st2 (b + 10) k (st2.2 (b + 10) k + lN (cW D E k))) (by omega) (by omega) (hC.k (fun o ho => by rw [sJ_1, f1 o (by omega) (by omega) (by omega) (by omega)])) (hQ.k (fun o ho => by rw [sJ_1, f1 o (by omega) (by omega) (by omega) (by omega)])) (by rw [sJ_1, f1 b (by omega) (by omega) (by omega) (by omega)]; exact ew) (fun s hs => by rw [sJ_1, f1 _ (by omega) (by omega) (by omega) (by omega)]; exact e1 s hs) (fun s hs => by rw [sJ_1, f1 _ (by omega) (by omega) (by omega) (by omega)]; exact e4 s hs) (fun u s hs hu hw => by rw [sJ_1, f1 _ (by omega) (by omega) (by omega) (by omega)]; exact e8 u s hs hu hw) ⟨f9, f6, fs2, f3, by rw [sJ_o (by omega)]; exact f11, fun s hs => by
          by_cases z : s = k
          · subst z; rw [sJ_at, mx_eq, f10, r10 s hs, mx_ge (Nat.le_refl _)]
          · rw [sJ_k z, mx_ne z, f10]; exact r10 s hs⟩
        exact ⟨st3, k0, k1, fun o o1 o2 o3 o4 => by rw [k2 o o1 o2 o3 o4, sJ_1, f1 o o1 o2 o3 o4], by rw [k3, sJ_o (by omega)]; exact f12, fun s r hs hr h => by rw [k4 s r hs hr h, sJ_1]; exact f9r s r hs hr h⟩
      have h1 := g1.1
      by_cases z : k = 0
      · subst z
        rw [if_pos rfl]
        obtain ⟨y, hy1, hy6, ey, cy⟩ := w_wy hD hkN
        refine key _ (fun o o1 o2 o3 o4 => ?_) (fun o o1 o2 => ?_) ?_ ?_ (fun s hs => ?_) (fun c hc => ?_) (fun c i hc hi => ?_) (fun c hc => ?_) (fun s r hs hr h => ?_)
        · rw [sI_o o2, sI_o o1, sJ_1, sI_o o4, h1]
        · rw [sI_2, sI_2, sJ_o o1, sI_2, g1.2 o o2]
        · rw [sI_2, sI_2, sJ_k (by decide), sI_2, g1.2 b (by omega)]
        · rw [sI_2, sI_2, sJ_at, g1.2 b (by omega), r11, lN_add]; rfl
        · rw [sI_o (show b + 9 ≠ b + 3 by omega), sI_o (show b + 9 ≠ b + 2 by omega), sJ_1, show s = 0 by omega, sI_at]
        · rw [sI_o (show b + 6 ≠ b + 3 by omega), sI_o (show b + 6 ≠ b + 2 by omega), sJ_1, sI_o (show b + 6 ≠ b + 9 by omega), h1, r6 c hc, if_neg (by omega), if_neg (by omega)]
        · rw [sI_o (show b + 2 ≠ b + 3 by omega), cy]
          by_cases t : 6 * c + i = 6 * 0 + (y - 1)
          · have tc : c = 0 := by omega
            subst tc
            have ti : i = y - 1 := by omega
            subst ti
            rw [sI_at, h1, r2 0 (y - 1) hc hi, if_neg (by omega), if_pos ⟨by omega, rfl, by omega⟩, Nat.add_zero, nI_add]
          · rw [sI_k t, sJ_1, sI_o (show b + 2 ≠ b + 9 by omega), h1, r2 c i hc hi, if_neg (by omega), if_neg (by omega)]
        · by_cases t : c = 0
          · subst t
            rw [sI_at, h1, r3 0 hc, if_neg (by omega), if_pos ⟨by omega, rfl⟩, Nat.add_zero, nI_add]
          · rw [sI_k t, sI_o (show b + 3 ≠ b + 2 by omega), sJ_1, sI_o (show b + 3 ≠ b + 9 by omega), h1, r3 c hc, if_neg (by omega), if_neg (by omega)]
        · rw [sI_o (show b + 9 ≠ b + 3 by omega), sI_o (show b + 9 ≠ b + 2 by omega), sJ_1, sI_k (by omega), h1]
      · rw [if_neg z]
        refine key _ (fun o o1 o2 o3 o4 => ?_) (fun o o1 o2 => ?_) ?_ ?_ (fun s hs => ?_) (fun c hc => ?_) (fun c i hc hi => ?_) (fun c hc => ?_) (fun s r hs hr h => ?_)
        · rw [sI_o o3, sI_o o4, h1]
        · rw [sI_2, sI_2, g1.2 o o2]
        · rw [sI_2, sI_2, g1.2 b (by omega)]
        · rw [sI_2, sI_2, g1.2 b (by omega), r11, if_pos (by omega), if_pos (by omega)]
        · rw [sI_o (show b + 9 ≠ b + 6 by omega)]
          by_cases t : s = k
          · subst t; rw [sI_at]
          · rw [sI_k (by omega), h1]; exact r9 s (by omega)
        · by_cases t : c = k
          · subst t
            rw [sI_at, h1, r6 c hc, if_neg (by omega), if_pos ⟨by omega, z⟩, Nat.add_zero, nI_add]
          · rw [sI_k t, sI_o (show b + 6 ≠ b + 9 by omega), h1, r6 c hc]
            by_cases t2 : c < k ∧ c ≠ 0
            · rw [if_pos t2, if_pos ⟨by omega, t2.2⟩]
            · rw [if_neg t2, if_neg (by omega)]
        · rw [sI_o (show b + 2 ≠ b + 6 by omega), sI_o (show b + 2 ≠ b + 9 by omega), h1, r2 c i hc hi]
          by_cases t2 : c = 0 ∧ i + 1 = (dWy D 0).toNatClampNeg
          · rw [if_pos ⟨by omega, t2⟩, if_pos ⟨by omega, t2⟩]
          · rw [if_neg (fun w => t2 w.2), if_neg (fun w => t2 w.2)]
        · rw [sI_o (show b + 3 ≠ b + 6 by omega), sI_o (show b + 3 ≠ b + 9 by omega), h1, r3 c hc]
          by_cases t2 : c = 0
          · rw [if_pos ⟨by omega, t2⟩, if_pos ⟨by omega, t2⟩]
          · rw [if_neg (fun w => t2 w.2), if_neg (fun w => t2 w.2)]
        · rw [sI_o (show b + 9 ≠ b + 6 by omega), sI_k (by omega), h1]
