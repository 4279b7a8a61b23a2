/-! ===== a week over numbers ===== -/
abbrev WD : Type := (Nat × Nat × Nat) × ((Nat → Int32) × (Nat → Int32) × (Nat → Int32) × (Nat → Int32)) × (Nat → Nat) × ((Nat → Nat) × (Nat → Nat → Nat) × (Nat → Nat) × (Nat → Nat) × (Nat → Nat)) × (Nat → Nat → Nat) × (Nat → Nat → Nat)
def dN (D : WD) : Nat := D.1.1
def dH (D : WD) : Nat := D.1.2.1
def dWk (D : WD) : Nat := D.1.2.2
def dKd (D : WD) : Nat → Int32 := D.2.1.1
def dSp (D : WD) : Nat → Int32 := D.2.1.2.1
def dWy (D : WD) : Nat → Int32 := D.2.1.2.2.1
def dDl (D : WD) : Nat → Int32 := D.2.1.2.2.2
def dDm (D : WD) : Nat → Nat := D.2.2.1
def dSk (D : WD) : Nat → Nat := D.2.2.2.1.1
def dSl (D : WD) : Nat → Nat → Nat := D.2.2.2.1.2.1
def dOd (D : WD) : Nat → Nat := D.2.2.2.1.2.2.1
def dOs (D : WD) : Nat → Nat := D.2.2.2.1.2.2.2.1
def dSn (D : WD) : Nat → Nat := D.2.2.2.1.2.2.2.2
def dOr (D : WD) : Nat → Nat → Nat := D.2.2.2.2.1
def dSe (D : WD) : Nat → Nat → Nat := D.2.2.2.2.2
abbrev cu (D : WD) (s c : Nat) : Prop := c < dN D ∧ c ≠ 0 ∧ dSp D c = nI s
def gN (D : WD) (c : Nat) : Nat := if c = 0 then 0 else pend (dOr D) (dWk D) (dDl D c).toNatClampNeg c 0
def stkA (D : WD) (s : Nat) : Nat := dSk D s + dSl D s 0
def sltA (D : WD) (s i : Nat) : Nat := if i < 5 then dSl D s (i + 1) else 0
def dmA (D : WD) (s : Nat) : Nat := if s < dN D ∧ dKd D s = 3 then dDm D s else 0
def odA (D : WD) (c : Nat) : Nat := dOd D c + gN D c
def osA (D : WD) (s : Nat) : Nat := dOs D s + dmA D s
def cgA (D : WD) (s c : Nat) : Nat := if cu D s c then gN D c else 0
def snA (D : WD) (s : Nat) : Nat := dmA D s + sumN (cgA D s) 8
def mmA (D : WD) (s c : Nat) : Nat := if c = s then osA D s else if cu D s c then odA D c else 0
noncomputable def shA (D : WD) (s c : Nat) : Nat := shN (dH D) (stkA D s) (mmA D s) 8 c
noncomputable def gtA (D : WD) (c : Nat) : Nat := if c < dN D ∧ c ≠ 0 then shA D (dSp D c).toNatClampNeg c else 0
def ow0 (D : WD) (s : Nat) : Nat := dOs D s + sumN (fun c => if cu D s c then dOd D c else 0) 8
def owA (D : WD) (s : Nat) : Nat := osA D s + sumN (fun c => if cu D s c then odA D c else 0) 8
noncomputable def outA (D : WD) (s : Nat) : Nat := sumN (shA D s) 8
noncomputable def stkB (D : WD) (s : Nat) : Nat := stkA D s - outA D s
noncomputable def owB (D : WD) (s : Nat) : Nat := owA D s - outA D s
noncomputable def snB (D : WD) (s : Nat) : Nat := dSn D s + outA D s
noncomputable def odB (D : WD) (c : Nat) : Nat := odA D c - gtA D c
noncomputable def osB (D : WD) (s : Nat) : Nat := osA D s - shA D s s
noncomputable def sltB (D : WD) (c i : Nat) : Nat := sltA D c i + (if i + 1 = (dWy D c).toNatClampNeg then gtA D c else 0)
def unA (D : WD) (c : Nat) : Nat := if c = 0 then 0 else dOd D c + sumN (pend (dOr D) (dWk D) (dDl D c).toNatClampNeg c) 4
noncomputable def unB (D : WD) (c : Nat) : Nat := unA D c - gtA D c
def seB (D : WD) (u s : Nat) : Nat := if u = dWk D then snA D s else dSe D u s
def orC (D : WD) (ord : Nat → Nat) (u s : Nat) : Nat := if u = dWk D then (if s < dN D then ord s else 0) else dOr D u s
noncomputable def sltC (D : WD) (ord : Nat → Nat) (s i : Nat) : Nat := sltB D s i + (if s = 0 ∧ i + 1 = (dWy D 0).toNatClampNeg then ord 0 else 0)
/-- what holds of the numbers -/
def PFl (D : WD) : Prop := (dN D ≤ 8 ∧ 1 ≤ dN D ∧ dH D ≤ 2 ∧ dWk D < 400) ∧
  (∀ s, s < dN D → (s = 0 → dKd D s = 0 ∧ dSp D s = -1) ∧ (s ≠ 0 → (∃ k, 1 ≤ k ∧ k ≤ 3 ∧ dKd D s = nI k) ∧ ∃ p, p < s ∧ dSp D s = nI p ∧ dKd D p ≠ 3) ∧ (∃ y, 1 ≤ y ∧ y ≤ 6 ∧ dWy D s = nI y) ∧ (∃ d, d ≤ 3 ∧ dDl D s = nI d)) ∧
  (∀ s, s < 8 → dDm D s ≤ 999) ∧
  (∀ s, dN D ≤ s → s < 8 → dSk D s = 0 ∧ (∀ i, dSl D s i = 0) ∧ dOd D s = 0 ∧ dOs D s = 0 ∧ dSn D s = 0 ∧ ∀ u, dOr D u s = 0 ∧ dSe D u s = 0) ∧
  (∀ s, s < 8 → dKd D s ≠ 3 → dOs D s = 0) ∧ dOd D 0 = 0 ∧
  ((∀ s, s < 8 → dSk D s + sumN (dSl D s) 6 ≤ 4079592) ∧ (∀ u s, dOr D u s ≤ 9999) ∧ (∀ c, dOd D c ≤ 9999 * dWk D) ∧ (∀ s, dOs D s ≤ 999 * dWk D) ∧ (∀ u s, dSe D u s ≤ 79992) ∧ ∀ s, s < 8 → dSn D s ≤ 4200000 * dWk D)
section
variable {D : WD}
theorem w_sup (hD : PFl D) {c : Nat} (hc : c < dN D) (h0 : c ≠ 0) : ∃ p, p < c ∧ dSp D c = nI p ∧ (dSp D c).toNatClampNeg = p ∧ dKd D p ≠ 3 := by
  obtain ⟨p, hp, ep, hk⟩ := ((hD.2.1 c hc).2.1 h0).2
  have := hD.1.1
  exact ⟨p, hp, ep, by rw [ep, nI_clamp (by omega)], hk⟩
theorem w_cu (hD : PFl D) {s c : Nat} (hs : s < 8) (h : cu D s c) : s < c ∧ (dSp D c).toNatClampNeg = s ∧ dKd D s ≠ 3 := by
  obtain ⟨p, hp, ep, e1, hk⟩ := w_sup hD h.1 h.2.1
  have := hD.1.1
  have h2 := h.1
  have : p = s := (nI_eq (by omega) (by omega)).mp (ep.symm.trans h.2.2)
  subst this
  exact ⟨hp, e1, hk⟩
theorem w_cuN (hD : PFl D) {s c : Nat} (hs : dN D ≤ s) (h8 : s < 8) : ¬ cu D s c := fun h => by
  have := (w_cu hD h8 h).1
  have := h.1
  omega
theorem w_pend (hD : PFl D) (dly c d : Nat) : pend (dOr D) (dWk D) dly c d ≤ 9999 := by
  unfold pend
  split
  · exact hD.2.2.2.2.2.2.2.1 _ _
  · omega
theorem w_g (hD : PFl D) (c : Nat) : gN D c ≤ 9999 := by
  unfold gN
  split
  · omega
  · exact w_pend hD _ _ _
theorem w_gN (hD : PFl D) {c : Nat} (hc : dN D ≤ c) (h8 : c < 8) : gN D c = 0 := by
  unfold gN
  split
  · rfl
  · unfold pend
    split
    · exact ((hD.2.2.2.1 c hc h8).2.2.2.2.2 _).1
    · rfl
theorem w_od (hD : PFl D) (c : Nat) : odA D c ≤ 4000000 := by
  unfold odA
  have := w_g hD c
  have := hD.2.2.2.2.2.2.2.2.1 c
  have := hD.1.2.2.2
  omega
theorem w_dm (hD : PFl D) {s : Nat} (hs : s < 8) : dmA D s ≤ 999 := by
  unfold dmA
  split
  · exact hD.2.2.1 s hs
  · omega
theorem w_os (hD : PFl D) {s : Nat} (hs : s < 8) : osA D s ≤ 400000 := by
  unfold osA
  have := w_dm hD hs
  have := hD.2.2.2.2.2.2.2.2.2.1 s
  have := hD.1.2.2.2
  omega
theorem w_os0 (hD : PFl D) {s : Nat} (hs : s < 8) (h : dKd D s ≠ 3) : osA D s = 0 := by
  unfold osA dmA
  rw [hD.2.2.2.2.1 s hs h, if_neg (fun q => h q.2)]
theorem w_osN (hD : PFl D) {s : Nat} (hs : dN D ≤ s) (h8 : s < 8) : osA D s = 0 := by
  unfold osA dmA
  rw [(hD.2.2.2.1 s hs h8).2.2.2.1, if_neg (fun q => by omega)]
theorem w_stk (hD : PFl D) {s : Nat} (hs : s < 8) : stkA D s ≤ 4079592 := by
  unfold stkA
  have := hD.2.2.2.2.2.2.1 s hs
  have := sumN_le (f := dSl D s) 6 0 (by omega)
  omega
theorem w_mm (hD : PFl D) {s : Nat} (hs : s < 8) (c : Nat) : mmA D s c ≤ 4000000 := by
  unfold mmA
  split
  · have := w_os hD hs; omega
  · split
    · exact w_od hD c
    · omega
theorem w_sh (D : WD) (s c : Nat) : shA D s c ≤ mmA D s c := sh_le _ _ _ _ _
theorem w_out (D : WD) (s : Nat) : outA D s ≤ stkA D s := sh_sum _ _ _ _
theorem w_mmS (hD : PFl D) {s : Nat} (hs : s < 8) : sumN (mmA D s) 8 = owA D s := by
  unfold owA mmA
  rw [Nat.add_comm]
  refine sumN_set (f := fun c => if cu D s c then odA D c else 0) (j := s) (d := osA D s) ?_ (fun i hi => by rw [if_neg hi]) 8 hs
  rw [if_pos rfl, if_neg (fun h => by have := (w_cu hD hs h).1; omega), Nat.zero_add]
theorem w_outo (hD : PFl D) {s : Nat} (hs : s < 8) : outA D s ≤ owA D s := by
  rw [← w_mmS hD hs]
  exact sumN_leS 8 (fun i _ => w_sh D s i)
theorem w_ow (hD : PFl D) {s : Nat} (hs : s < 8) : owA D s ≤ 33000000 := by
  rw [← w_mmS hD hs]
  have := sumN_bd (f := mmA D s) (B := 4000000) 8 (fun i _ => w_mm hD hs i)
  omega
theorem w_sh0 (D : WD) {s c : Nat} (h : mmA D s c = 0) : shA D s c = 0 := by have := w_sh D s c; omega
theorem w_gt (hD : PFl D) {s c : Nat} (hs : s < 8) (h : cu D s c) : gtA D c = shA D s c := by
  unfold gtA
  rw [if_pos ⟨h.1, h.2.1⟩, (w_cu hD hs h).2.1]
theorem w_gto (hD : PFl D) (c : Nat) : gtA D c ≤ odA D c := by
  unfold gtA
  split
  · rename_i h
    obtain ⟨p, hp, ep, e1, hk⟩ := w_sup hD h.1 h.2
    rw [e1]
    have h1 := w_sh D p c
    have : mmA D p c = odA D c := by unfold mmA; rw [if_neg (by omega), if_pos ⟨h.1, h.2, ep⟩]
    omega
  · omega
theorem w_odun (D : WD) (c : Nat) (h0 : c ≠ 0) : odA D c ≤ unA D c := by
  unfold odA unA gN
  rw [if_neg h0, if_neg h0]
  have := sumN_le (f := pend (dOr D) (dWk D) (dDl D c).toNatClampNeg c) 4 0 (by omega)
  omega
theorem w_gt0 (D : WD) {c : Nat} (h : c = 0 ∨ dN D ≤ c) : gtA D c = 0 := by
  unfold gtA
  rw [if_neg (by omega)]
theorem w_gtu (hD : PFl D) (c : Nat) : gtA D c ≤ unA D c := by
  by_cases h0 : c = 0
  · rw [w_gt0 D (Or.inl h0)]; omega
  · have := w_gto hD c
    have := w_odun D c h0
    omega
theorem w_un (hD : PFl D) (c : Nat) : unA D c ≤ 4039596 := by
  unfold unA
  split
  · omega
  · have h1 := hD.2.2.2.2.2.2.2.2.1 c
    have h2 := sumN_bd (f := pend (dOr D) (dWk D) (dDl D c).toNatClampNeg c) (B := 9999) 4 (fun i _ => w_pend hD _ _ _)
    have := hD.1.2.2.2
    omega
/-- a shop has no customers of its own kind; another sells nothing to buyers -/
theorem w_outS (hD : PFl D) {s : Nat} (hs : s < 8) (h3 : dKd D s = 3) : outA D s = shA D s s ∧ owA D s = osA D s ∧ shA D s s = if osA D s < stkA D s then osA D s else stkA D s := by
  have hz : ∀ c, c ≠ s → mmA D s c = 0 := fun c hc => by unfold mmA; rw [if_neg hc, if_neg (fun q => (w_cu hD hs q).2.2 h3)]
  have hz2 : ∀ c, c ≠ s → shA D s c = 0 := fun c hc => w_sh0 D (hz c hc)
  refine ⟨?_, ?_, ?_⟩
  · unfold outA
    have := sumN_set (f := fun _ => 0) (g := shA D s) (j := s) (d := shA D s s) (by omega) (fun i hi => hz2 i hi) 8 hs
    rw [this]
    have z0 : ∀ k, sumN (fun _ => 0) k = 0 := by
      intro k
      induction k with
      | zero => rfl
      | succ k ih => rw [sumN, ih]
    rw [z0]; omega
  · unfold owA
    rw [sumN_congr (g := fun _ => 0) 8 (fun c _ => by rw [if_neg (fun q => (w_cu hD hs q).2.2 h3)])]
    simp [sumN]
  · unfold shA
    rw [sh_only (dH D) (stkA D s) 8 s (mmA D s) hs (fun c _ hc => hz c hc)]
    have : mmA D s s = osA D s := by unfold mmA; rw [if_pos rfl]
    rw [this]
theorem w_outC (hD : PFl D) {s : Nat} (hs : s < 8) (h3 : dKd D s ≠ 3) : shA D s s = 0 ∧ outA D s = sumN (fun c => if cu D s c then gtA D c else 0) 8 := by
  have h0 : shA D s s = 0 := w_sh0 D (by unfold mmA; rw [if_pos rfl]; exact w_os0 hD hs h3)
  refine ⟨h0, ?_⟩
  unfold outA
  refine sumN_congr 8 (fun c _ => ?_)
  by_cases q : cu D s c
  · rw [if_pos q, w_gt hD hs q]
  · rw [if_neg q]
    by_cases z : c = s
    · rw [z]; exact h0
    · exact w_sh0 D (by unfold mmA; rw [if_neg z, if_neg q])
end
def mx {α : Type} (k : Nat) (f g : Nat → α) (s : Nat) : α := if s < k then f s else g s
theorem mx_lt {α : Type} {k s : Nat} {f g : Nat → α} (h : s < k) : mx k f g s = f s := if_pos h
theorem mx_ge {α : Type} {k s : Nat} {f g : Nat → α} (h : k ≤ s) : mx k f g s = g s := if_neg (by omega)
theorem mx_ne {α : Type} {k s : Nat} {f g : Nat → α} (h : s ≠ k) : mx (k + 1) f g s = mx k f g s := by
  unfold mx
  by_cases q : s < k
  · rw [if_pos q, if_pos (by omega)]
  · rw [if_neg q, if_neg (by omega)]
theorem mx_eq {α : Type} {k : Nat} {f g : Nat → α} : mx (k + 1) f g k = f k := if_pos (by omega)
/-- the class's plan -/
def CP (st : St) (D : WD) : Prop := st.1 1 9 = nI (dN D) ∧ st.1 2 = dKd D ∧ st.1 3 = dSp D ∧ st.1 4 = dWy D ∧ st.1 5 = dDl D ∧ st.1 1 11 = nI (dH D)
theorem CP.k {st st1 : St} {D : WD} (h : CP st D) (k : ∀ o, o < 6 → st1.1 o = st.1 o) : CP st1 D := by
  unfold CP at h ⊢
  rw [k 1 (by omega), k 2 (by omega), k 3 (by omega), k 4 (by omega), k 5 (by omega)]
  exact h
