/-! ===== what holds of the numbers holds a week later ===== -/
def PU (D : WD) (fs md sd : Nat) (cst : Nat → Int64) : Prop :=
  (∀ s, dN D ≤ s → s < 8 → dSk D s = 0 ∧ (∀ i, dSl D s i = 0) ∧ dOd D s = 0 ∧ dOs D s = 0 ∧ dSn D s = 0 ∧ cst s = 0 ∧ ∀ u, dOr D u s = 0 ∧ dSe D u s = 0) ∧ (∀ s, s < 8 → dKd D s ≠ 3 → dOs D s = 0) ∧ dOd D 0 = 0 ∧
  (sumN (fun s => dSk D s + sumN (dSl D s) 6) 8 + sd = fs + md ∧ md ≤ 9999 * dWk D ∧ (∀ u s, dOr D u s ≤ 9999) ∧ (∀ c, dOd D c ≤ 9999 * dWk D) ∧ (∀ s, dOs D s ≤ 999 * dWk D) ∧ (∀ u s, dSe D u s ≤ 79992) ∧ ∀ s, s < 8 → dSn D s ≤ 4200000 * dWk D) ∧ ∀ s, s < 8 → ∃ c, c ≤ 4000000000 * dWk D ∧ cst s = lN c
/-- the plan's part of the numbers -/
def PPn (D : WD) : Prop := (dN D ≤ 8 ∧ 1 ≤ dN D ∧ dH D ≤ 2) ∧ ∀ s, s < dN D → (s = 0 → dKd D s = 0 ∧ dSp D s = -1) ∧ (s ≠ 0 → (∃ k, 1 ≤ k ∧ k ≤ 3 ∧ dKd D s = nI k) ∧ ∃ p, p < s ∧ dSp D s = nI p ∧ dKd D p ≠ 3) ∧ (∃ y, 1 ≤ y ∧ y ≤ 6 ∧ dWy D s = nI y) ∧ (∃ d, d ≤ 3 ∧ dDl D s = nI d)
theorem pfl_of {D : WD} {fs md sd : Nat} {cst : Nat → Int64} (hP : PPn D) (hU : PU D fs md sd cst) (hf : fs ≤ 79992) (hw : dWk D < 400) (hd : ∀ s, s < 8 → dDm D s ≤ 999) : PFl D := by
  obtain ⟨u0, u1, u2, ⟨u3, u4, u5, u6, u7, u8, u9⟩, -⟩ := hU
  refine ⟨⟨hP.1.1, hP.1.2.1, hP.1.2.2, hw⟩, hP.2, hd, fun s h1 h2 => ?_, u1, u2, fun s hs => ?_, u5, u6, u7, u8, u9⟩
  · obtain ⟨a, b, c, d, e, -, g⟩ := u0 s h1 h2
    exact ⟨a, b, c, d, e, g⟩
  · have := sumN_le (f := fun s => dSk D s + sumN (dSl D s) 6) 8 s hs
    omega
theorem sumN_addF (f g : Nat → Nat) : ∀ k, sumN (fun i => f i + g i) k = sumN f k + sumN g k := by
  intro k
  induction k with
  | zero => rfl
  | succ k ih => rw [sumN, sumN, sumN, ih]; omega
theorem sumN_zF : ∀ k, sumN (fun _ => 0) k = 0 := by
  intro k
  induction k with
  | zero => rfl
  | succ k ih => rw [sumN, ih]
theorem sumN_swap (f : Nat → Nat → Nat) (m : Nat) : ∀ k, sumN (fun s => sumN (f s) m) k = sumN (fun c => sumN (fun s => f s c) k) m := by
  intro k
  induction k with
  | zero =>
    have : sumN (fun c => sumN (fun s => f s c) 0) m = 0 := sumN_zF m
    rw [this]; rfl
  | succ k ih =>
    rw [sumN, ih]
    have : sumN (fun c => sumN (fun s => f s c) (k + 1)) m = sumN (fun c => sumN (fun s => f s c) k + f k c) m := rfl
    rw [this, sumN_addF]
section
variable {D : WD} {E : PD} {R : Nat}
theorem w_outX (hD : PFl D) {s : Nat} (hs : s < 8) : outA D s = shA D s s + sumN (fun c => if cu D s c then gtA D c else 0) 8 := by
  unfold outA
  rw [Nat.add_comm]
  refine sumN_set (f := fun c => if cu D s c then gtA D c else 0) (g := shA D s) (j := s) (d := shA D s s) ?_ (fun i hi => ?_) 8 hs
  · rw [if_neg (fun h => by have := (w_cu hD hs h).1; omega), Nat.zero_add]
  · show shA D s i = _
    by_cases q : cu D s i
    · rw [if_pos q, w_gt hD hs q]
    · rw [if_neg q]
      exact w_sh0 D (by unfold mmA; rw [if_neg hi, if_neg q])
theorem w_gtX (hD : PFl D) {c : Nat} (hc : c < 8) : sumN (fun s => if cu D s c then gtA D c else 0) 8 = gtA D c := by
  by_cases q : c < dN D ∧ c ≠ 0
  · obtain ⟨p, hp, ep, ecp, hk⟩ := w_sup hD q.1 q.2
    have hN := hD.1.1
    have key : ∀ k, k ≤ 8 → sumN (fun s => if cu D s c then gtA D c else 0) k = if p < k then gtA D c else 0 := by
      intro k
      induction k with
      | zero => intro _; rw [if_neg (by omega)]; rfl
      | succ k ih =>
        intro hk
        rw [sumN, ih (by omega)]
        by_cases z : k = p
        · subst z
          rw [if_neg (by omega), if_pos ⟨q.1, q.2, ep⟩, if_pos (by omega)]; omega
        · rw [if_neg (show ¬ cu D k c from fun w => z ((nI_eq (by omega) (by omega)).mp (w.2.2.symm.trans ep)))]
          by_cases y : p < k
          · rw [if_pos y, if_pos (by omega)]; rfl
          · rw [if_neg y, if_neg (by omega)]
    rw [key 8 (Nat.le_refl _), if_pos (by omega)]
  · rw [w_gt0 D (show c = 0 ∨ dN D ≤ c by omega), sumN_congr (g := fun _ => 0) 8 (fun s _ => by split <;> rfl), sumN_zF]
theorem w_sum (hD : PFl D) : sumN (outA D) 8 = sdW D + sumN (gtA D) 8 := by
  rw [sumN_congr (g := fun s => shA D s s + sumN (fun c => if cu D s c then gtA D c else 0) 8) 8 (fun s hs => w_outX hD hs), sumN_addF, sumN_swap (fun s c => if cu D s c then gtA D c else 0) 8 8, sumN_congr (f := fun c => sumN (fun s => if cu D s c then gtA D c else 0) 8) (g := gtA D) 8 (fun c hc => w_gtX hD hc)]
  congr 1
  exact sumN_cut 8 hD.1.1 (fun s h1 h2 => by
    have := w_outX hD h2
    have := w_outN hD h1 h2
    omega)
theorem w_cons (hD : PFl D) (E : PD) (dm : Nat → Nat) : sumN (fun s => dSk (nxD D E dm) s + sumN (dSl (nxD D E dm) s) 6) 8 + sdW D = sumN (fun s => dSk D s + sumN (dSl D s) 6) 8 + oW D E 0 := by
  have h1 : ∀ s, s < 8 → (dSk (nxD D E dm) s + sumN (dSl (nxD D E dm) s) 6) + outA D s = (dSk D s + sumN (dSl D s) 6) + (gtA D s + (if s = 0 then oW D E 0 else 0)) := fun s hs => by
    show (stkB D s + sumN (sltC D (oW D E) s) 6) + outA D s = _
    rw [w_slC hD (oW D E) hs, w_slB hD hs, sltA_sum]
    have a1 := w_out D s
    have a2 := sumN_le (f := dSl D s) 6 0 (by omega)
    unfold stkB
    unfold stkA at a1 ⊢
    omega
  have h2 := sumN_congr 8 h1
  rw [sumN_addF (fun s => dSk (nxD D E dm) s + sumN (dSl (nxD D E dm) s) 6) (outA D), sumN_addF (fun s => dSk D s + sumN (dSl D s) 6) (fun s => gtA D s + (if s = 0 then oW D E 0 else 0)), sumN_addF (gtA D) (fun s => if s = 0 then oW D E 0 else 0), w_sum hD] at h2
  have h3 : sumN (fun s => if s = 0 then oW D E 0 else 0) 8 = oW D E 0 := by
    rw [sumN_front (fun s => if s = 0 then oW D E 0 else 0) 7, if_pos rfl, sumN_congr (g := fun _ => 0) 7 (fun i _ => by rw [if_neg (by omega)]), sumN_zF]; rfl
  omega
theorem w_cW (hD : PFl D) (hE : PPl E (dN D) R) {s : Nat} (hs : s < dN D) : cW D E s ≤ 4000000000 := by
  have hN := hD.1.1
  obtain ⟨-, -, -, ⟨H, hH, eH⟩, ⟨Lk, hLk, eLk⟩⟩ := hE.2.1 s hs
  have h1 := w_stk hD (show s < 8 by omega)
  have h2 := w_ow hD (show s < 8 by omega)
  unfold cW
  rw [eH, eLk, nI_clamp (by omega), nI_clamp (by omega)]
  have h3 : stkB D s ≤ 4079592 := by unfold stkB; omega
  have h4 : owB D s ≤ 33000000 := by unfold owB; omega
  have h5 : H * stkB D s ≤ 99 * 4079592 := Nat.mul_le_mul hH h3
  have h6 : Lk * owB D s ≤ 99 * 33000000 := Nat.mul_le_mul hLk h4
  omega
theorem pu_nx {fs md sd : Nat} {cst : Nat → Int64} (hD : PFl D) (hE : PPl E (dN D) R) (hU : PU D fs md sd cst) (dm : Nat → Nat) : PU (nxD D E dm) fs (md + oW D E 0) (sd + sdW D) (cstW D E cst) := by
  have hN := hD.1.1
  have hN1 := hD.1.2.1
  obtain ⟨u0, u1, u2, ⟨u3, u4, u5, u6, u7, u8, u9⟩, uc⟩ := hU
  have ho := w_o hE (show 0 < dN D by omega)
  have hw : dWk (nxD D E dm) = dWk D + 1 := rfl
  have dmall : ∀ s, dmA D s ≤ 999 := fun s => by
    unfold dmA
    split
    · rename_i h; exact hD.2.2.1 s (by omega)
    · omega
  refine ⟨fun s h1 h2 => ?_, fun s hs h3 => ?_, ?_, ⟨?_, ?_, fun u s => ?_, fun c => ?_, fun s => ?_, fun u s => ?_, fun s hs => ?_⟩, fun s hs => ?_⟩
  · have h1' : dN D ≤ s := h1
    obtain ⟨a, b, c, d, e, f, g⟩ := u0 s h1' h2
    have hg : gtA D s = 0 := w_gt0 D (Or.inr h1')
    refine ⟨?_, fun i => ?_, ?_, ?_, ?_, ?_, fun u => ⟨?_, ?_⟩⟩
    · show stkA D s - outA D s = 0
      rw [w_stkN hD h1' h2]; omega
    · show sltC D (oW D E) s i = 0
      unfold sltC sltB sltA
      rw [hg, b (i + 1), if_neg (show ¬ (s = 0 ∧ i + 1 = (dWy D 0).toNatClampNeg) by omega)]
      split <;> split <;> rfl
    · show odA D s - gtA D s = 0
      unfold odA
      rw [c, w_gN hD h1' h2]; omega
    · show osA D s - shA D s s = 0
      rw [w_osN hD h1' h2]; omega
    · show dSn D s + outA D s = 0
      rw [e, w_outN hD h1' h2]
    · unfold cstW
      rw [mx_ge h1']; exact f
    · show orC D (oW D E) u s = 0
      unfold orC
      split
      · rw [if_neg (by omega)]
      · exact (g u).1
    · show seB D u s = 0
      unfold seB
      split
      · exact w_snN hD h1' h2
      · exact (g u).2
  · show osA D s - shA D s s = 0
    rw [w_os0 hD hs h3]; omega
  · show odA D 0 - gtA D 0 = 0
    unfold odA gN
    rw [u2, if_pos rfl]; omega
  · have := w_cons hD E dm
    omega
  · rw [hw]; omega
  · show orC D (oW D E) u s ≤ 9999
    unfold orC
    split
    · split
      · exact w_o hE (by assumption)
      · omega
    · exact u5 u s
  · show odA D c - gtA D c ≤ 9999 * (dWk D + 1)
    have := u6 c
    have := w_g hD c
    unfold odA
    omega
  · show osA D s - shA D s s ≤ 999 * (dWk D + 1)
    have := u7 s
    have := dmall s
    unfold osA
    omega
  · show seB D u s ≤ 79992
    unfold seB
    split
    · unfold snA
      have h1 := dmall s
      rw [sumN_front (cgA D s) 7]
      have h0 : cgA D s 0 = 0 := by unfold cgA; rw [if_neg (fun q => q.2.1 rfl)]
      have := sumN_bd (f := fun i => cgA D s (i + 1)) (B := 9999) 7 (fun i _ => by
        show cgA D s (i + 1) ≤ 9999
        unfold cgA
        split
        · exact w_g hD _
        · omega)
      omega
    · exact u8 u s
  · show dSn D s + outA D s ≤ 4200000 * (dWk D + 1)
    have := u9 s hs
    have := w_out D s
    have := w_stk hD hs
    omega
  · obtain ⟨c, hc, ec⟩ := uc s hs
    unfold cstW
    by_cases q : s < dN D
    · rw [mx_lt q]
      have := w_cW hD hE q
      refine ⟨c + cW D E s, ?_, by show cst s + lN (cW D E s) = _; rw [ec, lN_add]⟩
      rw [hw]; omega
    · rw [mx_ge (by omega)]
      refine ⟨c, ?_, ec⟩
      rw [hw]; omega
end
