/-! ===== the class's goBy: a week, told rows emptied, the past noted ===== -/
def PsC (st : St) (D : WD) : Prop := (∀ s u, s < 8 → u < dWk D → dWk D ≤ u + 40 → st.1 22 (40 * s + u % 40) = nI (dSe D u s) ∧ st.1 23 (40 * s + u % 40) = nI (dOr D u s)) ∧ ∀ s r, s < 8 → dWk D ≤ r → r < 40 → st.1 22 (40 * s + r) = 0 ∧ st.1 23 (40 * s + r) = 0
theorem c_told26 (n : Nat) (v1 : Int32) : ∀ (j k : Nat) (st : St), k ≤ 8 → 8 - k < j → (∀ s, s < k → st.1 50 s = 0) → ∃ st1, fX10_goBy_L26 n j v1 (nI k) st = fX10_goBy_s48 n v1 st1 ∧ st1.2 = st.2 ∧ (∀ o, o ≠ 50 → st1.1 o = st.1 o) ∧ ∀ s, s < 8 → st1.1 50 s = 0 := by
  intro j
  induction j with
  | zero => intro k st _ hj; omega
  | succ j ih =>
    intro k st hk hj h0
    simp only [fX10_goBy_L26, fX10_goBy_s26]
    by_cases q : k = 8
    · subst q
      rw [if_pos (show (8 : Int32) ≤ nI 8 by decide)]
      exact ⟨st, rfl, rfl, fun _ _ => rfl, h0⟩
    · rw [if_neg (show ¬ (8 : Int32) ≤ nI k from nI_ge (b := 8) (by omega) (by decide))]
      simp only [fX10_goBy_s35, inb_nI (show k < 8 by omega) (by decide), nI_clamp (show k < 2 ^ 31 by omega), if_true, fX10_goBy_s42, nI_1]
      obtain ⟨st1, g0, g1, g2, g3⟩ := ih (k + 1) (setI st 50 k 0) (by omega) (by omega) (fun s hs => by
        by_cases z : s = k
        · subst z; rw [sI_at]
        · rw [sI_k z]; exact h0 s (by omega))
      exact ⟨st1, g0, g1, fun o ho => by rw [g2 o ho, sI_o ho], g3⟩
theorem c_note17 (n N w : Nat) (hN : N ≤ 8) (hw : w < 400) (se od : Nat → Nat) : ∀ (j k : Nat) (st : St), k ≤ N → N - k < j → st.1 53 10 = nI (w + 1) → (∀ s, s < N → st.1 61 (4 * s + w % 4) = nI (se s) ∧ st.1 62 (4 * s + w % 4) = nI (od s)) → (∀ s, s < k → st.1 22 (40 * s + w % 40) = nI (se s) ∧ st.1 23 (40 * s + w % 40) = nI (od s)) → ∃ st1, fX5_note_L17 n j (nI N) (nI (w % 40)) (nI k) st = some ((), st1) ∧ st1.2 = st.2 ∧ (∀ o, o ≠ 22 → o ≠ 23 → st1.1 o = st.1 o) ∧ (∀ s, s < N → st1.1 22 (40 * s + w % 40) = nI (se s) ∧ st1.1 23 (40 * s + w % 40) = nI (od s)) ∧ ∀ s r, r < 40 → (r ≠ w % 40 ∨ N ≤ s) → st1.1 22 (40 * s + r) = st.1 22 (40 * s + r) ∧ st1.1 23 (40 * s + r) = st.1 23 (40 * s + r) := by
  intro j
  induction j with
  | zero => intro k st _ hj; omega
  | succ j ih =>
    intro k st hk hj ew h6 h2
    simp only [fX5_note_L17, fX5_note_s17]
    by_cases q : k = N
    · subst q
      rw [if_pos (Int32.le_refl _)]
      exact ⟨st, rfl, rfl, fun _ _ _ => rfl, h2, fun _ _ _ _ => ⟨rfl, rfl⟩⟩
    · rw [if_neg (nI_ge (show k < N by omega) (by omega))]
      have ei : nI k * 40 + nI (w % 40) = nI (40 * k + w % 40) := by rw [show (40 : Int32) = nI 40 from rfl, pk_mul, nI_add, Nat.mul_comm]
      have l1 := c_latest n 53 61 k st (w := w + 1) (by omega) ew (by omega)
      rw [if_neg (by omega), Nat.add_sub_cancel, (h6 k (by omega)).1] at l1
      have l2 := c_latest n 53 62 k (setI st 22 (40 * k + w % 40) (nI (se k))) (w := w + 1) (by omega) (by rw [sI_o (by decide)]; exact ew) (by omega)
      rw [if_neg (by omega), Nat.add_sub_cancel, sI_o (by decide), (h6 k (by omega)).2] at l2
      simp only [fX5_note_s23, l1, Option.bind_some, fX5_note_s44, ei, inb_nI (show 40 * k + w % 40 < 320 by omega) (by decide), nI_clamp (show 40 * k + w % 40 < 2 ^ 31 by omega), if_true, fX5_note_s45, l2, fX5_note_s66, fX5_note_s67, nI_1]
      obtain ⟨st1, g0, g1, g2, g3, g4⟩ := ih (k + 1) (setI (setI st 22 (40 * k + w % 40) (nI (se k))) 23 (40 * k + w % 40) (nI (od k))) (by omega) (by omega) (by rw [sI_o (by decide), sI_o (by decide)]; exact ew) (fun s hs => by rw [sI_o (by decide), sI_o (by decide), sI_o (by decide), sI_o (by decide)]; exact h6 s hs) (fun s hs => by
        rw [sI_o (show (22 : Nat) ≠ 23 by decide)]
        by_cases z : s = k
        · subst z; rw [sI_at, sI_at]; exact ⟨rfl, rfl⟩
        · rw [sI_k (by omega), sI_k (by omega), sI_o (by decide)]; exact h2 s (by omega))
      refine ⟨st1, g0, g1, fun o o1 o2 => by rw [g2 o o1 o2, sI_o o2, sI_o o1], g3, fun s r hr h => ?_⟩
      obtain ⟨t1, t2⟩ := g4 s r hr h
      rw [t1, t2, sI_o (show (22 : Nat) ≠ 23 by decide), sI_k (by omega), sI_k (by omega), sI_o (by decide)]
      exact ⟨rfl, rfl⟩
theorem c_goByF (n R md sd : Nat) (hn : 200 ≤ n) (D : WD) (E : PD) (hD : PFl D) (hE : PPl E (dN D) R) (cst : Nat → Int64) (dm : Nat → Nat) (st : St) (hC : CP st D) (hQ : CQ st E R) (hdm : ∀ s, s < dN D → dKd D s = 3 → st.1 50 s = nI (dDm D s)) (hF : CFl st 53 D md sd cst) (hPs : PsC st D) : ∃ st1, fX10_goBy n st = some (nI (sdW D), st1) ∧ CFl st1 53 (nxD D E dm) (md + oW D E 0) (sd + sdW D) (cstW D E cst) ∧ PsC st1 (nxD D E dm) ∧ ∀ s, s < 8 → st1.1 50 s = 0 := by
  have hN := hD.1.1
  have hw := hD.1.2.2.2
  obtain ⟨s1, a0, a1⟩ := c_passF n 53 50 R md sd hn D E (by decide) (by decide) hD hE cst dm st hC hQ hdm hF
  have z1 := zX1_pass n 53 50 st _ a0
  simp only [fX10_goBy, fX10_goBy_s0, a0, Option.bind_some, fX10_goBy_s23]
  obtain ⟨s2, b0, b1, b2, b3⟩ := c_told26 n (nI (sdW D)) n 0 s1 (by omega) (by omega) (fun s hs => absurd hs (by omega))
  rw [show nI 0 = 0 from rfl] at b0
  rw [b0]
  have e9 : s2.1 1 9 = nI (dN D) := by
    rw [b2 1 (by decide), z1.1 1 9 (by unfold wOK uIX1_pass; simp)]; exact hC.1
  obtain ⟨⟨f0, fm, fd⟩, fR, f4, f5, f6, f7, f89, fz, fc⟩ := id a1
  have ew : s2.1 53 10 = nI (dWk D + 1) := by rw [b2 53 (by decide)]; exact f0
  have at0 : (if 0 < nI (dWk D + 1) - 1 then nI (dWk D + 1) - 1 else 0) = nI (dWk D) := by
    rw [nI_pred]
    by_cases q : dWk D = 0
    · rw [q]; rfl
    · rw [if_pos (show (0 : Int32) < nI (dWk D) from nI_lt (a := 0) (by omega) (by omega))]
  simp only [fX10_goBy_s48, e9, fX5_note, fX5_note_s0, ew, at0]
  rw [show nI (dWk D) - nI (dWk D) / 40 * 40 = nI (dWk D % 40) from pk_rem (d := 40) (by omega) (by decide) (by decide)]
  have h6 : ∀ s, s < dN D → s2.1 61 (4 * s + dWk D % 4) = nI (snA D s) ∧ s2.1 62 (4 * s + dWk D % 4) = nI (oW D E s) := fun s hs => by
    have := f89 s (dWk D) (by omega) (show dWk D < dWk D + 1 by omega) (show dWk D + 1 ≤ dWk D + 4 by omega)
    have e1 : dSe (nxD D E dm) (dWk D) s = snA D s := by show seB D (dWk D) s = _; unfold seB; rw [if_pos rfl]
    have e2 : dOr (nxD D E dm) (dWk D) s = oW D E s := by show orC D (oW D E) (dWk D) s = _; unfold orC; rw [if_pos rfl, if_pos hs]
    rw [e1, e2] at this
    rw [b2 61 (by decide), b2 62 (by decide)]
    exact this
  obtain ⟨s3, c0, c1, c2, c3, c4⟩ := c_note17 n (dN D) (dWk D) hN hw (snA D) (oW D E) n 0 s2 (by omega) (by omega) ew h6 (fun s hs => absurd hs (by omega))
  rw [show nI 0 = 0 from rfl] at c0
  rw [c0]
  simp only [Option.bind_some, fX10_goBy_s66]
  have fr : ∀ o, 53 ≤ o → s3.1 o = s1.1 o := fun o ho => by rw [c2 o (by omega) (by omega), b2 o (by omega)]
  have frJ : s3.2 = s1.2 := by rw [c1, b1]
  refine ⟨s3, rfl, ?_, ⟨fun s u hs hu huw => ?_, fun s r hs hr hr4 => ?_⟩, fun s hs => by rw [c2 50 (by decide) (by decide)]; exact b3 s hs⟩
  · unfold CFl R1 at a1 ⊢
    rw [fr 53 (by decide), fr (53 + 1) (by decide), fr (53 + 2) (by decide), fr (53 + 3) (by decide), fr (53 + 4) (by decide), fr (53 + 5) (by decide), fr (53 + 6) (by decide), fr (53 + 7) (by decide), fr (53 + 8) (by decide), fr (53 + 9) (by decide), frJ]
    exact a1
  · have hu' : u < dWk D + 1 := hu
    have huw' : dWk D + 1 ≤ u + 40 := huw
    have z22 : ∀ k, s1.1 22 k = st.1 22 k := fun k => z1.1 22 k (by unfold wOK uIX1_pass; simp)
    have z23 : ∀ k, s1.1 23 k = st.1 23 k := fun k => z1.1 23 k (by unfold wOK uIX1_pass; simp)
    show s3.1 22 (40 * s + u % 40) = nI (seB D u s) ∧ s3.1 23 (40 * s + u % 40) = nI (orC D (oW D E) u s)
    have old : (u % 40 ≠ dWk D % 40 ∨ dN D ≤ s) → s3.1 22 (40 * s + u % 40) = st.1 22 (40 * s + u % 40) ∧ s3.1 23 (40 * s + u % 40) = st.1 23 (40 * s + u % 40) := fun h => by
      obtain ⟨t1, t2⟩ := c4 s (u % 40) (by omega) h
      rw [t1, t2, b2 22 (by decide), b2 23 (by decide), z22, z23]
      exact ⟨rfl, rfl⟩
    unfold seB orC
    by_cases z : u = dWk D
    · subst z
      rw [if_pos rfl, if_pos rfl]
      by_cases x : s < dN D
      · rw [if_pos x]; exact c3 s x
      · obtain ⟨t1, t2⟩ := old (Or.inr (by omega))
        rw [t1, t2, if_neg x, w_snN hD (by omega) hs]
        by_cases y : dWk D < 40
        · rw [Nat.mod_eq_of_lt y]; exact hPs.2 s _ hs (Nat.le_refl _) y
        · have := hPs.1 s (dWk D - 40) hs (by omega) (by omega)
          have hz := (hD.2.2.2.1 s (by omega) hs).2.2.2.2.2 (dWk D - 40)
          rw [hz.1, hz.2, show (dWk D - 40) % 40 = dWk D % 40 by omega] at this
          exact this
    · obtain ⟨t1, t2⟩ := old (Or.inl (by omega))
      rw [t1, t2, if_neg z, if_neg z]
      exact hPs.1 s u hs (by omega) (by omega)
  · have hr' : dWk D + 1 ≤ r := hr
    obtain ⟨t1, t2⟩ := c4 s r hr4 (Or.inl (by omega))
    rw [t1, t2, b2 22 (by decide), b2 23 (by decide), z1.1 22 _ (by unfold wOK uIX1_pass; simp), z1.1 23 _ (by unfold wOK uIX1_pass; simp)]
    exact hPs.2 s r hs (by omega) hr4
/-! ===== from the invariant to the numbers and back ===== -/
def mkD (N how w : Nat) (kd sp wy dl : Nat → Int32) (dm stk : Nat → Nat) (slt : Nat → Nat → Nat) (od osh snt : Nat → Nat) (orH snH : Nat → Nat → Nat) : WD := ((N, how, w), (kd, sp, wy, dl), dm, (stk, slt, od, osh, snt), orH, snH)
def Ext (st : St) : Prop := ∃ w, w ≤ 400 ∧ st.1 53 10 = nI w ∧ (∀ s, s < 8 → ∃ c, c ≤ 4000000000 * w ∧ st.2 145 s = lN c) ∧ (∀ s r, s < 8 → w ≤ r → r < 4 → st.1 61 (4 * s + r) = 0 ∧ st.1 62 (4 * s + r) = 0) ∧ ∀ s r, s < 8 → w ≤ r → r < 40 → st.1 22 (40 * s + r) = 0 ∧ st.1 23 (40 * s + r) = 0 ∧ st.2 149 (40 * s + r) = 0 ∧ st.2 150 (40 * s + r) = 0
def Inv2 (st : St) : Prop := Inv st ∧ Ext st
/-- the whole of it, over numbers: what the invariant says of plan and flow -/
def Wk (st : St) (D : WD) (E : PD) (R fs md sd : Nat) (cst : Nat → Int64) : Prop := (PPn D ∧ PU D fs md sd cst ∧ PPl E (dN D) R ∧ fs ≤ 9999 * dN D ∧ dWk D ≤ 400) ∧ CP st D ∧ CQ st E R ∧ MP st D ∧ MQ2 st E R ∧ CFl st 53 D md sd cst ∧ MFl st D md sd cst ∧ PsC st D
theorem wk_of {st : St} {N R : Nat} (hI : Inv2 st) (hP : PlanI st N R) (hR : RulesI st R) (hF : FlowI st N) (hN : 1 ≤ N) (dm : Nat → Nat) : ∃ (D : WD) (E : PD) (fs md sd : Nat) (cst : Nat → Int64), Wk st D E R fs md sd cst ∧ dDm D = dm ∧ dN D = N := by
  obtain ⟨h8, e9, e0, hrows, ⟨how, hh2, eh, eh'⟩, hfs, hsh, hst⟩ := id hP
  obtain ⟨w, fs, md, sd, stk, slt, od, osh, snt, orH, snH, hw, hfs0, hN0, hFl, hPa⟩ := id hF
  obtain ⟨hR12, eR, eR', hru⟩ := id hR
  obtain ⟨w', hw', ew', hxc, hx4, hx40⟩ := hI.2
  obtain ⟨⟨f1, f2, f3, f4, f5, f6⟩, f7, f8, f9, f10, f11, f12, f13, f14, f15, f16, f17, f18, f19, f20, f21, f22⟩ := id hFl
  have hww : w' = w := (nI_eq (by omega) (by omega)).mp (ew'.symm.trans f1)
  subst hww
  obtain ⟨r1, r2, r3, r4, r5, r6, r7, r8, r9⟩ := hrows
  have lenE : ∃ ln : Nat → Nat, ∀ r, r < R → st.1 13 r = nI (ln r) ∧ st.1 153 r = nI (ln r) ∧ RuleI (st.1 12) (st.1 154) r (ln r) := by
    refine ⟨fun r => (st.1 13 r).toNatClampNeg, fun r hr => ?_⟩
    obtain ⟨len, e1, e2, h3⟩ := hru r hr
    have : (st.1 13 r).toNatClampNeg = len := by rw [e1, nI_clamp (by have := h3.2.1; omega)]
    simp only [this]; exact ⟨e1, e2, h3⟩
  obtain ⟨ln, hln⟩ := lenE
  refine ⟨mkD N how w' (st.1 2) (st.1 3) (st.1 4) (st.1 5) dm stk slt od osh snt orH snH, (st.1 10, st.1 12, ln, st.1 6, st.1 7, st.1 8, st.1 9), fs, md, sd, st.2 145, ⟨⟨⟨⟨h8, hN, hh2⟩, fun s hs => ?_⟩, ⟨fun s h1 h2 => ?_, f20, f21, ⟨f22.1, f22.2.1, f22.2.2.1, f22.2.2.2.1, f22.2.2.2.2.1, f22.2.2.2.2.2.1, fun s _ => f22.2.2.2.2.2.2 s⟩, hxc⟩, ⟨hR12, fun s hs => ?_, fun r hr => ?_⟩, hfs0, hw⟩, ⟨e9, rfl, rfl, rfl, rfl, eh⟩, ⟨rfl, rfl, rfl, rfl, rfl, rfl, eR, fun r hr => (hln r hr).1⟩, ⟨e0, r1, r2, r3, r4, eh'⟩, ⟨r9, r5, r6, r7, r8, fun r hr => ⟨(hln r hr).2.1, (hln r hr).2.2.2.2.1⟩⟩, ⟨⟨f1, f3, f5⟩, ⟨fun s hs => (f7 s hs).1, fun s i hs hi => (f8 s i hs hi).1, f9⟩, f10, f11, f13, fun s hs => (f15 s hs).1, fun s u hs hu huw => f16 s u hs hu huw, hx4, f18⟩, ⟨⟨f2, f4, f6⟩, ⟨fun s hs => (f7 s hs).2, fun s i hs hi => (f8 s i hs hi).2⟩, f12, f14, fun s hs => (f15 s hs).2, f17, fun _ _ => rfl, fun s u hs hu huw => (hPa s u hs hu huw).2.2, fun s r hs hr hr4 => (hx40 s r hs hr hr4).2.2⟩, ⟨fun s u hs hu huw => ⟨(hPa s u hs hu huw).1, (hPa s u hs hu huw).2.1⟩, fun s r hs hr hr4 => ⟨(hx40 s r hs hr hr4).1, (hx40 s r hs hr hr4).2.1⟩⟩⟩, rfl, rfl⟩
  · obtain ⟨t1, t2, t3, t4, t5, t6, t7, t8, t9⟩ := hst s hs
    exact ⟨t1, t2, t3, t4⟩
  · obtain ⟨t1, t2, t3, t4, t5, t6, t7⟩ := f19 s h1 h2
    exact ⟨t1, t2, t3, t4, t5, t6, t7⟩
  · obtain ⟨t1, t2, t3, t4, t5, t6, t7, t8, t9⟩ := hst s hs
    exact ⟨t9, t5, t6, t7, t8⟩
  · obtain ⟨-, -, h3⟩ := hln r hr
    exact ⟨h3.2.1, fun j hj => ⟨_, h3.2.2.1 j hj⟩, h3.2.2.2⟩
theorem flow_of {st : St} {D : WD} {fs md sd : Nat} {cst : Nat → Int64} (hC : CFl st 53 D md sd cst) (hM : MFl st D md sd cst) (hU : PU D fs md sd cst) : FlowN st 53 (dN D) (dWk D) (dKd D) (dSp D) (dDl D) fs md sd (dSk D) (dSl D) (dOd D) (dOs D) (fun s => if s < 8 then dSn D s else 0) (dOr D) (dSe D) := by
  obtain ⟨⟨c0, cm, cd⟩, ⟨c1, c2, c3⟩, c4, c5, c6, c7, c89, cz, cc⟩ := hC
  obtain ⟨⟨m0, mm, ms⟩, ⟨m1, m3⟩, m2, m4, m6, m78, m5, m90, mz⟩ := hM
  obtain ⟨u0, u1, u2, ⟨u3, u4, u5, u6, u7, u8, u9⟩, uc⟩ := hU
  refine ⟨⟨c0, m0, cm, mm, cd, ms⟩, fun s hs => ⟨c1 s hs, m1 s hs⟩, fun s i hs hi => ⟨c2 s i hs hi, m3 s i hs hi⟩, c3, c4, c5, m2, c6, m4, fun s hs => ?_, fun s u hs hu huw => c89 s u hs hu huw, m78, fun s hs => ?_, fun s h1 h2 => ?_, u1, u2, ⟨u3, u4, u5, u6, u7, u8, fun s => ?_⟩⟩
  · show st.1 (53 + 7) s = nI (if s < 8 then dSn D s else 0) ∧ st.2 146 s = lN (if s < 8 then dSn D s else 0)
    rw [if_pos hs]; exact ⟨c7 s hs, m6 s hs⟩
  · rw [cc s hs, m5 s hs]
  · obtain ⟨t1, t2, t3, t4, t5, t6, t7⟩ := u0 s h1 h2
    refine ⟨t1, t2, t3, t4, ?_, by rw [m5 s h2]; exact t6, t7⟩
    show (if s < 8 then dSn D s else 0) = 0
    rw [if_pos h2]; exact t5
  · show (if s < 8 then dSn D s else 0) ≤ 4200000 * dWk D
    split
    · exact u9 s (by assumption)
    · omega
theorem ext_of {st : St} {D : WD} {fs md sd : Nat} {cst : Nat → Int64} (hC : CFl st 53 D md sd cst) (hM : MFl st D md sd cst) (hU : PU D fs md sd cst) (hP : PsC st D) (hw : dWk D ≤ 400) : Ext st := by
  obtain ⟨⟨c0, cm, cd⟩, ⟨c1, c2, c3⟩, c4, c5, c6, c7, c89, cz, cc⟩ := hC
  obtain ⟨⟨m0, mm, ms⟩, ⟨m1, m3⟩, m2, m4, m6, m78, m5, m90, mz⟩ := hM
  refine ⟨dWk D, hw, c0, fun s hs => ?_, cz, fun s r hs hr hr4 => ⟨(hP.2 s r hs hr hr4).1, (hP.2 s r hs hr hr4).2, mz s r hs hr hr4⟩⟩
  obtain ⟨c, h1, h2⟩ := hU.2.2.2.2 s hs
  exact ⟨c, h1, by rw [m5 s hs]; exact h2⟩
theorem past_of {st : St} {D : WD} {md sd : Nat} {cst : Nat → Int64} (hM : MFl st D md sd cst) (hP : PsC st D) : PastN st (dWk D) (dOr D) (dSe D) := by
  obtain ⟨⟨m0, mm, ms⟩, ⟨m1, m3⟩, m2, m4, m6, m78, m5, m90, mz⟩ := hM
  exact fun s u hs hu huw => ⟨(hP.1 s u hs hu huw).1, (hP.1 s u hs hu huw).2, (m90 s u hs hu huw).1, (m90 s u hs hu huw).2⟩
