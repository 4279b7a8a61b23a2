/-! ===== the class's week as a whole ===== -/
noncomputable def nxD (D : WD) (E : PD) (dm : Nat → Nat) : WD := ((dN D, dH D, dWk D + 1), (dKd D, dSp D, dWy D, dDl D), dm, (stkB D, sltC D (oW D E), odB D, osB D, snB D), orC D (oW D E), seB D)
def CFl (st : St) (b : Nat) (D : WD) (md sd : Nat) (cst : Nat → Int64) : Prop :=
  (st.1 b 10 = nI (dWk D) ∧ st.2 b 11 = lN md ∧ st.2 b 12 = lN sd) ∧ R1 st b (dSk D) (dSl D) ∧ (∀ s, s < 8 → st.1 (b + 4) s = nI (ow0 D s)) ∧ (∀ c, c < 8 → st.1 (b + 5) c = nI (dOd D c)) ∧ (∀ c, c < 8 → st.1 (b + 6) c = nI (unA D c)) ∧ (∀ s, s < 8 → st.1 (b + 7) s = nI (dSn D s)) ∧ (∀ s u, s < 8 → u < dWk D → dWk D ≤ u + 4 → st.1 (b + 8) (4 * s + u % 4) = nI (dSe D u s) ∧ st.1 (b + 9) (4 * s + u % 4) = nI (dOr D u s)) ∧ (∀ s r, s < 8 → dWk D ≤ r → r < 4 → st.1 (b + 8) (4 * s + r) = 0 ∧ st.1 (b + 9) (4 * s + r) = 0) ∧ ∀ s, s < 8 → st.2 (b + 10) s = cst s
noncomputable def sdW (D : WD) : Nat := sumN (fun s => shA D s s) (dN D)
noncomputable def cstW (D : WD) (E : PD) (cst : Nat → Int64) (s : Nat) : Int64 := mx (dN D) (fun s => cst s + lN (cW D E s)) cst s
section
variable {D : WD} {E : PD} {R : Nat}
theorem w_stkN (hD : PFl D) {s : Nat} (hs : dN D ≤ s) (h8 : s < 8) : stkA D s = 0 := by
  unfold stkA
  rw [(hD.2.2.2.1 s hs h8).1, (hD.2.2.2.1 s hs h8).2.1 0]
theorem w_outN (hD : PFl D) {s : Nat} (hs : dN D ≤ s) (h8 : s < 8) : outA D s = 0 := by
  have := w_out D s
  rw [w_stkN hD hs h8] at this
  omega
theorem w_owN (hD : PFl D) {s : Nat} (hs : dN D ≤ s) (h8 : s < 8) : owA D s = 0 := by
  unfold owA
  rw [w_osN hD hs h8, sumN_congr (g := fun _ => 0) 8 (fun c _ => by rw [if_neg (w_cuN hD hs h8)])]
  simp [sumN]
theorem w_snN (hD : PFl D) {s : Nat} (hs : dN D ≤ s) (h8 : s < 8) : snA D s = 0 := by
  unfold snA dmA
  rw [if_neg (fun q => by omega), sumN_congr (g := fun _ => 0) 8 (fun c _ => by unfold cgA; rw [if_neg (w_cuN hD hs h8)])]
  simp [sumN]
theorem w_dvN (hD : PFl D) {c : Nat} (hc : c < 8) : dvK D (dN D) c = gtA D c := by
  unfold dvK
  by_cases q : c < dN D ∧ c ≠ 0
  · obtain ⟨p, hp, ep, ecp, hk⟩ := w_sup hD q.1 q.2
    rw [ecp, if_pos (by omega)]
  · rw [w_gt0 D (show c = 0 ∨ dN D ≤ c by omega)]; split <;> rfl
theorem w_mxS (hD : PFl D) {s : Nat} (h8 : s < 8) : mx (dN D) (stkB D) (stkA D) s = stkB D s := by
  by_cases q : s < dN D
  · rw [mx_lt q]
  · rw [mx_ge (by omega)]; unfold stkB; rw [w_stkN hD (by omega) h8]; omega
theorem w_mxO (hD : PFl D) {s : Nat} (h8 : s < 8) : mx (dN D) (owB D) (owA D) s = owB D s := by
  by_cases q : s < dN D
  · rw [mx_lt q]
  · rw [mx_ge (by omega)]; unfold owB; rw [w_owN hD (by omega) h8]; omega
theorem w_mxT (hD : PFl D) {s : Nat} (h8 : s < 8) : mx (dN D) (snB D) (dSn D) s = snB D s := by
  by_cases q : s < dN D
  · rw [mx_lt q]
  · rw [mx_ge (by omega)]; unfold snB; rw [w_outN hD (by omega) h8]; omega
theorem w_slC (hD : PFl D) (ord : Nat → Nat) {c : Nat} (hc : c < 8) : sumN (sltC D ord c) 6 = sumN (sltB D c) 6 + (if c = 0 then ord 0 else 0) := by
  by_cases z : c = 0
  · subst z
    have := hD.1.2.1
    obtain ⟨y, h1, h6, -, cy⟩ := w_wy hD (show 0 < dN D by omega)
    rw [if_pos rfl]
    refine sumN_set (f := sltB D 0) (g := sltC D ord 0) (j := y - 1) (d := ord 0) ?_ (fun i hi => ?_) 6 (by omega)
    · unfold sltC; rw [cy, if_pos ⟨rfl, by omega⟩]
    · unfold sltC; rw [cy, if_neg (by omega)]; rfl
  · rw [if_neg z]
    exact sumN_congr 6 (fun i _ => by unfold sltC; rw [if_neg (fun q => z q.1)]; rfl)
theorem sumN_sub {f g : Nat → Nat} : ∀ k, (∀ i, i < k → g i ≤ f i) → sumN (fun i => f i - g i) k = sumN f k - sumN g k ∧ sumN g k ≤ sumN f k := by
  intro k
  induction k with
  | zero => intro _; exact ⟨rfl, Nat.le_refl _⟩
  | succ k ih =>
    intro h
    obtain ⟨h1, h2⟩ := ih (fun i hi => h i (by omega))
    have := h k (by omega)
    rw [sumN, sumN, sumN, h1]
    omega
theorem w_owB (hD : PFl D) {s : Nat} (hs : s < 8) : osB D s + sumN (fun c => if cu D s c then odB D c else 0) 8 = owB D s := by
  have h1 : sumN (fun c => mmA D s c - shA D s c) 8 = owB D s := by
    rw [(sumN_sub (f := mmA D s) (g := shA D s) 8 (fun i _ => w_sh D s i)).1, w_mmS hD hs]; rfl
  rw [← h1, Nat.add_comm]
  symm
  refine sumN_set (f := fun c => if cu D s c then odB D c else 0) (g := fun c => mmA D s c - shA D s c) (j := s) (d := osB D s) ?_ (fun i hi => ?_) 8 hs
  · rw [if_neg (fun h => by have := (w_cu hD hs h).1; omega), Nat.zero_add]
    show mmA D s s - shA D s s = osB D s
    unfold osB mmA
    rw [if_pos rfl]
  · show mmA D s i - shA D s i = _
    by_cases q : cu D s i
    · rw [if_pos q]
      unfold odB
      rw [w_gt hD hs q]
      have : mmA D s i = odA D i := by unfold mmA; rw [if_neg hi, if_pos q]
      rw [this]
    · rw [if_neg q]
      have : mmA D s i = 0 := by unfold mmA; rw [if_neg hi, if_neg q]
      omega
theorem pend_nx (ord : Nat → Nat) {c : Nat} (hc : c < dN D) (d e : Nat) : pend (orC D ord) (dWk D + 1) d c e = pend (dOr D) (dWk D) d c (e + 1) + (if e = d then ord c else 0) := by
  unfold pend
  by_cases z : e = d
  · subst z
    rw [if_pos ⟨Nat.le_refl _, by omega⟩, if_neg (show ¬ (e + 1 ≤ e ∧ e + 1 ≤ dWk D + (e + 1)) by omega), if_pos rfl, show dWk D + 1 + e - (e + 1) = dWk D by omega]
    unfold orC
    rw [if_pos rfl, if_pos hc]; omega
  · rw [if_neg z]
    by_cases q : e ≤ d ∧ d + 1 ≤ dWk D + 1 + e
    · rw [if_pos q, if_pos (show e + 1 ≤ d ∧ d + 1 ≤ dWk D + (e + 1) by omega), show dWk D + 1 + e - (d + 1) = dWk D + (e + 1) - (d + 1) by omega]
      unfold orC
      rw [if_neg (by omega)]; rfl
    · rw [if_neg q, if_neg (show ¬ (e + 1 ≤ d ∧ d + 1 ≤ dWk D + (e + 1)) by omega)]
theorem w_unC (hD : PFl D) (ord : Nat → Nat) {c : Nat} (hc : c < 8) : unB D c + (if c < dN D ∧ c ≠ 0 then ord c else 0) = if c = 0 then 0 else odB D c + sumN (pend (orC D ord) (dWk D + 1) (dDl D c).toNatClampNeg c) 4 := by
  by_cases z : c = 0
  · subst z
    rw [if_pos rfl, if_neg (by omega)]
    unfold unB unA
    rw [if_pos rfl]; omega
  · rw [if_neg z]
    by_cases q : c < dN D
    · rw [if_pos ⟨q, z⟩]
      obtain ⟨d, hd3, ed⟩ := (hD.2.1 c q).2.2.2
      have cd : (dDl D c).toNatClampNeg = d := by rw [ed, nI_clamp (by omega)]
      rw [cd]
      have e1 : sumN (pend (orC D ord) (dWk D + 1) d c) 4 = sumN (fun e => pend (dOr D) (dWk D) d c (e + 1)) 4 + ord c := sumN_set (f := fun e => pend (dOr D) (dWk D) d c (e + 1)) (j := d) (d := ord c) (by rw [pend_nx ord q, if_pos rfl]) (fun i hi => by rw [pend_nx ord q, if_neg hi]; rfl) 4 (by omega)
      have e2 : sumN (fun e => pend (dOr D) (dWk D) d c (e + 1)) 4 = sumN (fun e => pend (dOr D) (dWk D) d c (e + 1)) 3 := by
        rw [sumN]
        have : pend (dOr D) (dWk D) d c (3 + 1) = 0 := by unfold pend; rw [if_neg (by omega)]
        omega
      have e3 : sumN (pend (dOr D) (dWk D) d c) 4 = pend (dOr D) (dWk D) d c 0 + sumN (fun e => pend (dOr D) (dWk D) d c (e + 1)) 3 := sumN_front _ 3
      have g := w_gto hD c
      unfold unB unA odB
      unfold odA gN at g ⊢
      rw [if_neg z, cd] at g ⊢
      rw [if_neg z, e1, e2, e3]
      omega
    · have hz := fun u => ((hD.2.2.2.1 c (by omega) hc).2.2.2.2.2 u).1
      have p0 : ∀ d e, pend (orC D ord) (dWk D + 1) d c e = 0 := fun d e => by
        unfold pend orC
        split
        · split
          · first | rfl | rw [if_neg q]
          · exact hz _
        · rfl
      have p1 : ∀ d e, pend (dOr D) (dWk D) d c e = 0 := fun d e => by
        unfold pend
        split
        · exact hz _
        · rfl
      rw [if_neg (fun w => q w.1), sumN_congr (g := fun _ => 0) 4 (fun e _ => p0 _ e)]
      unfold unB unA odB odA gN
      rw [if_neg z, if_neg z, p1, w_gt0 D (show c = 0 ∨ dN D ≤ c by omega), sumN_congr (g := fun _ => 0) 4 (fun e _ => p1 _ e)]
      simp [sumN]
end
theorem c_passF (n b b4 R md sd : Nat) (hn : 200 ≤ n) (D : WD) (E : PD) (hb : 53 ≤ b) (h4 : b4 < 53) (hD : PFl D) (hE : PPl E (dN D) R) (cst : Nat → Int64) (dm : Nat → Nat) (st : St) (hC : CP st D) (hQ : CQ st E R) (hdm : ∀ s, s < dN D → dKd D s = 3 → st.1 b4 s = nI (dDm D s)) (hF : CFl st b D md sd cst) : ∃ st1, fX1_pass n b b4 st = some (nI (sdW D), st1) ∧ CFl st1 b (nxD D E dm) (md + oW D E 0) (sd + sdW D) (cstW D E cst) := by
  have hN := hD.1.1
  have hN1 := hD.1.2.1
  have hw := hD.1.2.2.2
  obtain ⟨⟨fw, fm, fd⟩, fR, f4, f5, f6, f7, f89, fz, fc⟩ := hF
  simp only [fX1_pass, fX1_pass_s0, fw, nI_1, fX1_pass_s10]
  have v5 : (setI st b 10 (nI (dWk D + 1))).2 b 12 = lN sd := fd
  rw [v5]
  -- the state with one week more
  have o0 : ∀ o, o ≠ b → (setI st b 10 (nI (dWk D + 1))).1 o = st.1 o := fun o ho => sI_o ho
  obtain ⟨s1, a0, a1, a2, a3⟩ := c_ph1 n b b4 D hb hD (lN sd) n 0 (setI st b 10 (nI (dWk D + 1))) (by omega) (by omega) (by rw [o0 1 (by omega)]; exact hC.1) ⟨fun s hs => by rw [o0 _ (by omega), mx_ge (Nat.zero_le _)]; exact fR.1 s hs, fun s i hs hi => by rw [o0 _ (by omega), mx_ge (Nat.zero_le _)]; exact fR.2.1 s i hs hi, fun s hs => by rw [o0 _ (by omega), mx_ge (Nat.zero_le _)]; exact fR.2.2 s hs⟩
  rw [show nI 0 = 0 from rfl] at a0
  rw [a0]
  have R1a := R1.all hD a3
  have e1 : ∀ o, o ≠ b → o ≠ b + 1 → o ≠ b + 2 → o ≠ b + 3 → s1.1 o = st.1 o := fun o q0 q1 q2 q3 => by rw [a2 o q1 q2 q3, o0 o q0]
  have ew1 : s1.1 b 10 = nI (dWk D + 1) := by rw [a2 b (by omega) (by omega) (by omega), sI_at]
  simp only [fX1_pass_s40]
  obtain ⟨s2, b0, b1, b2, b3, b5⟩ := c_ph2 n b b4 D hb h4 hD (lN sd) n 0 s1 (by omega) (by omega) (hC.k (fun o ho => e1 o (by omega) (by omega) (by omega) (by omega))) ew1 (fun s hs h3 => by rw [e1 b4 (by omega) (by omega) (by omega) (by omega)]; exact hdm s hs h3) (fun u x hx hu hw => by rw [e1 _ (by omega) (by omega) (by omega) (by omega)]; exact (f89 x u hx hu hw).2) ⟨fun s hs => by rw [e1 _ (by omega) (by omega) (by omega) (by omega), f4 s hs, if_neg (by omega)]; rfl, fun c hc => by rw [e1 _ (by omega) (by omega) (by omega) (by omega), f5 c hc, if_neg (by omega)]; rfl, fun s hs => absurd hs (by omega)⟩
  rw [show nI 0 = 0 from rfl] at b0
  rw [b0]
  obtain ⟨c4, c5, c8⟩ := R2.all hD b3
  have e2 : ∀ o, o ≠ b → o ≠ b + 1 → o ≠ b + 2 → o ≠ b + 3 → o ≠ b + 4 → o ≠ b + 5 → o ≠ b + 8 → s2.1 o = st.1 o := fun o q0 q1 q2 q3 q4 q5 q8 => by rw [b2 o q4 q5 q8, e1 o q0 q1 q2 q3]
  have J2 : s2.2 = st.2 := by rw [b1, a1, sI_2]
  have ew2 : s2.1 b 10 = nI (dWk D + 1) := by rw [b2 b (by omega) (by omega) (by omega)]; exact ew1
  simp only [fX1_pass_s70]
  have dv0 : ∀ c, dvK D 0 c = 0 := fun c => by unfold dvK; rw [if_neg (by omega)]
  have hC2 : CP s2 D := hC.k (fun o ho => e2 o (by omega) (by omega) (by omega) (by omega) (by omega) (by omega) (by omega))
  obtain ⟨s3, d0, d1, d2, d3, d4⟩ := c_ph3 n b b4 sd hn D hb hD (lN sd) n 0 s2 (by omega) (by omega) hC2 ⟨fun s hs => by rw [b2 _ (by omega) (by omega) (by omega), mx_ge (Nat.zero_le _)]; exact R1a.1 s hs, fun s hs => by rw [mx_ge (Nat.zero_le _)]; exact c4 s hs, fun s hs => by rw [e2 _ (by omega) (by omega) (by omega) (by omega) (by omega) (by omega) (by omega), mx_ge (Nat.zero_le _)]; exact f7 s hs, ⟨fun c hc => by rw [dv0]; exact c5 c hc, fun c hc => by rw [dv0, e2 _ (by omega) (by omega) (by omega) (by omega) (by omega) (by omega) (by omega)]; exact f6 c hc, fun c i hc hi => by rw [dv0, b2 _ (by omega) (by omega) (by omega), R1a.2.1 c i hc hi]; split <;> rfl, fun c hc => by rw [dv0, b2 _ (by omega) (by omega) (by omega), R1a.2.2 c hc]; rfl⟩, by rw [J2]; exact fd⟩
  rw [show nI 0 = 0 from rfl] at d0
  rw [d0]
  obtain ⟨g1, g4, g7, gV, gS⟩ := d1
  have hC3 : CP s3 D := hC2.k (fun o ho => d2 o (by omega))
  have ew3 : s3.1 b 10 = nI (dWk D + 1) := by rw [d2 b (by omega)]; exact ew2
  simp only [fX1_pass_s96]
  have hQ3 : CQ s3 E R := hQ.k (fun o ho => by rw [d2 o (by omega), e2 o (by omega) (by omega) (by omega) (by omega) (by omega) (by omega) (by omega)])
  have h1 : ∀ s, s < 8 → s3.1 (b + 1) s = nI (stkB D s) := fun s hs => by rw [g1 s hs, w_mxS hD hs]
  have h4' : ∀ s, s < 8 → s3.1 (b + 4) s = nI (owB D s) := fun s hs => by rw [g4 s hs, w_mxO hD hs]
  have h8 : ∀ u s, s < dN D → u < dWk D + 1 → dWk D + 1 ≤ u + 4 → s3.1 (b + 8) (4 * s + u % 4) = nI (seB D u s) := fun u s hs hu huw => by
    rw [d2 _ (by omega)]
    unfold seB
    by_cases z : u = dWk D
    · rw [if_pos z, z]; exact c8 s hs
    · rw [if_neg z, b5 s (u % 4) (by omega) (by omega) (Or.inl (by omega)), e1 _ (by omega) (by omega) (by omega) (by omega)]
      exact (f89 s u (by omega) (by omega) (by omega)).1
  obtain ⟨s4, k0, k1, k2, k3, k4⟩ := c_ph4 n b b4 R md hn D E hb hD hE cst (lN sd) n 0 s3 (by omega) (by omega) hC3 hQ3 ew3 h1 h4' h8 ⟨fun s hs => absurd hs (by omega), fun c hc => by rw [gV.2.1 c hc, w_dvN hD hc, if_neg (by omega)]; rfl, fun c i hc hi => by rw [gV.2.2.1 c i hc hi, w_dvN hD hc, if_neg (show ¬ (0 < 0 ∧ c = 0 ∧ i + 1 = (dWy D 0).toNatClampNeg) by omega)]; rfl, fun c hc => by rw [gV.2.2.2 c hc, w_dvN hD hc, w_slB hD hc, if_neg (by omega)]; rfl, by rw [d4, J2, fm, if_neg (by omega)]; rfl, fun s hs => by rw [d3 _ (by omega), J2, mx_ge (Nat.zero_le _)]; exact fc s hs⟩
  rw [show nI 0 = 0 from rfl] at k0
  rw [k0]
  obtain ⟨m9, m6, m2, m3, m11, m10⟩ := k1
  have eS : s4.2 b 12 = lN (sd + sdW D) := by rw [k3]; exact gS
  refine ⟨s4, ?_, ?_⟩
  · simp only [fX1_pass_s198, eS]
    rw [lN_sub (by omega), lN_i, Nat.add_sub_cancel_left]
  · have e4 : ∀ o, o ≠ b + 2 → o ≠ b + 3 → o ≠ b + 6 → o ≠ b + 9 → s4.1 o = s3.1 o := k2
    refine ⟨⟨by rw [e4 b (by omega) (by omega) (by omega) (by omega)]; exact ew3, by rw [m11, if_pos (by omega)], eS⟩, ⟨fun s hs => by rw [e4 _ (by omega) (by omega) (by omega) (by omega)]; exact h1 s hs, fun c i hc hi => ?_, fun c hc => ?_⟩, fun s hs => ?_, fun c hc => ?_, fun c hc => ?_, fun s hs => ?_, fun s u hs hu huw => ?_, fun s r hs hr hr4 => ?_, fun s hs => m10 s hs⟩
    · rw [m2 c i hc hi]
      congr 1
      show _ = sltC D (oW D E) c i
      unfold sltC
      congr 1
      by_cases z : c = 0 ∧ i + 1 = (dWy D 0).toNatClampNeg
      · rw [if_pos ⟨by omega, z⟩, if_pos z]
      · rw [if_neg (fun w => z w.2), if_neg z]
    · rw [m3 c hc]
      congr 1
      show _ = sumN (sltC D (oW D E) c) 6
      rw [w_slC hD (oW D E) hc]
      congr 1
      by_cases z : c = 0
      · rw [if_pos ⟨by omega, z⟩, if_pos z]
      · rw [if_neg (fun w => z w.2), if_neg z]
    · rw [e4 _ (by omega) (by omega) (by omega) (by omega), h4' s hs, ← w_owB hD hs]
      rfl
    · rw [e4 _ (by omega) (by omega) (by omega) (by omega), gV.1 c hc, w_dvN hD hc]
      rfl
    · rw [m6 c hc, w_unC hD (oW D E) hc]
      rfl
    · rw [e4 _ (by omega) (by omega) (by omega) (by omega), g7 s hs, w_mxT hD hs]
      rfl
    · have hu' : u < dWk D + 1 := hu
      have huw' : dWk D + 1 ≤ u + 4 := huw
      have r8 : s4.1 (b + 8) (4 * s + u % 4) = s2.1 (b + 8) (4 * s + u % 4) := by rw [e4 _ (by omega) (by omega) (by omega) (by omega), d2 _ (by omega)]
      show s4.1 (b + 8) (4 * s + u % 4) = nI (seB D u s) ∧ s4.1 (b + 9) (4 * s + u % 4) = nI (orC D (oW D E) u s)
      have r9 : s3.1 (b + 9) = st.1 (b + 9) := by rw [d2 _ (by omega), e2 _ (by omega) (by omega) (by omega) (by omega) (by omega) (by omega) (by omega)]
      by_cases q : s < dN D
      · refine ⟨by rw [e4 _ (by omega) (by omega) (by omega) (by omega)]; exact h8 u s q hu' huw', ?_⟩
        unfold orC
        by_cases z : u = dWk D
        · rw [if_pos z, if_pos q, z]; exact m9 s q
        · rw [if_neg z, k4 s (u % 4) hs (by omega) (Or.inl (by omega)), r9]
          exact (f89 s u hs (by omega) (by omega)).2
      · obtain ⟨-, -, -, -, -, hz⟩ := hD.2.2.2.1 s (by omega) hs
        have o9 : s4.1 (b + 9) (4 * s + u % 4) = st.1 (b + 9) (4 * s + u % 4) := by rw [k4 s (u % 4) hs (by omega) (Or.inr (by omega)), r9]
        have o8 : s4.1 (b + 8) (4 * s + u % 4) = st.1 (b + 8) (4 * s + u % 4) := by
          rw [r8, b5 s (u % 4) hs (by omega) (Or.inr (by omega)), e1 _ (by omega) (by omega) (by omega) (by omega)]
        rw [o8, o9]
        unfold seB orC
        by_cases z : u = dWk D
        · subst z
          rw [if_pos rfl, if_pos rfl, if_neg q, w_snN hD (by omega) hs]
          by_cases y : dWk D < 4
          · have := fz s (dWk D) hs (Nat.le_refl _) y
            rw [Nat.mod_eq_of_lt y]; exact this
          · have := f89 s (dWk D - 4) hs (by omega) (by omega)
            rw [(hz _).1, (hz _).2, show (dWk D - 4) % 4 = dWk D % 4 by omega] at this
            exact this
        · rw [if_neg z, if_neg z]
          exact f89 s u hs (by omega) (by omega)
    · have hr' : dWk D + 1 ≤ r := hr
      have := fz s r hs (by omega) hr4
      refine ⟨?_, ?_⟩
      · rw [e4 _ (by omega) (by omega) (by omega) (by omega), d2 _ (by omega), b5 s r hs hr4 (Or.inl (by omega)), e1 _ (by omega) (by omega) (by omega) (by omega)]
        exact this.1
      · rw [k4 s r hs hr4 (Or.inl (by omega)), d2 _ (by omega), e2 _ (by omega) (by omega) (by omega) (by omega) (by omega) (by omega) (by omega)]
        exact this.2
