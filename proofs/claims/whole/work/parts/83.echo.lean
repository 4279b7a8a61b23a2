/-! ===== straight, echo, loud ===== -/
def runO (t a m : Int × Nat) : Nat → Option ((Int × Nat) × (Int × Nat))
  | 0 => some ((0, 1), (0, 1))
  | w + 1 => (runO t a m w).bind fun x => (passF t a m (dW w) x.1 x.2).map fun r => (r.1, r.2.1)
def oO (t a m : Int × Nat) (w : Nat) : Fq := (runO t a m w).bind fun x => (passF t a m (dW w) x.1 x.2).map fun r => r.2.2
theorem vF_01 : vF (0, 1) := ⟨by decide, by decide, by decide⟩
theorem bind_v {X : Fq} {f : Int × Nat → Fq} (hX : vO X) (hf : ∀ x, vF x → vO (f x)) : vO (X.bind f) := by
  cases X with
  | none => exact vO_none
  | some x => exact hf x (hX x rfl)
theorem passF_v {t a m d f p : Int × Nat} (vt : vF t) (va : vF a) (vm : vF m) (vd : vF d) (vf : vF f) (vp : vF p) {r : (Int × Nat) × (Int × Nat) × (Int × Nat)} (h : passF t a m d f p = some r) : vF r.1 ∧ vF r.2.1 ∧ vF r.2.2 := by
  unfold passF at h
  obtain ⟨x1, h1, h⟩ := bd h
  obtain ⟨x2, h2, h⟩ := bd h
  obtain ⟨f', h3, h⟩ := bd h
  obtain ⟨p1, h4, h⟩ := bd h
  obtain ⟨x3, h5, h⟩ := bd h
  obtain ⟨x4, h6, h⟩ := bd h
  obtain ⟨x5, h7, h⟩ := bd h
  obtain ⟨o, h8, h⟩ := bd h
  obtain ⟨p', h9, h⟩ := bd h
  cases h
  have v1 : vF x1 := (addF_v vd vf).2.1 _ h1
  have v2 : vF x2 := (addF_v vt v1).2.2 _ h2
  have v3 : vF f' := (addF_v vf v2).1 _ h3
  have v4 : vF p1 := (addF_v vp vd).2.1 _ h4
  have v5 : vF x3 := (addF_v vm v3).2.2 _ h5
  have v6 : vF x4 := (addF_v v5 v4).2.1 _ h6
  have v7 : vF x5 := (addF_v va v6).2.2 _ h7
  have v8 : vF o := (addF_v vd v7).1 _ h8
  exact ⟨v3, (addF_v v4 v8).1 _ h9, v8⟩
theorem runO_v {t a m : Int × Nat} (vt : vF t) (va : vF a) (vm : vF m) : ∀ w x, runO t a m w = some x → vF x.1 ∧ vF x.2 := by
  intro w
  induction w with
  | zero => intro x h; cases h; exact ⟨vF_01, vF_01⟩
  | succ w ih =>
    intro x h
    obtain ⟨y, h1, h2⟩ := bd h
    obtain ⟨r, h3, h4⟩ := Option.map_eq_some_iff.mp h2
    obtain ⟨v1, v2⟩ := ih y h1
    have := passF_v vt va vm (dW_v w) v1 v2 h3
    cases h4
    exact ⟨this.1, this.2.1⟩
theorem oO_v {t a m : Int × Nat} (vt : vF t) (va : vF a) (vm : vF m) (w : Nat) : vO (oO t a m w) := by
  intro o h
  obtain ⟨y, h1, h2⟩ := bd h
  obtain ⟨r, h3, h4⟩ := Option.map_eq_some_iff.mp h2
  obtain ⟨v1, v2⟩ := runO_v vt va vm w y h1
  have := passF_v vt va vm (dW_v w) v1 v2 h3
  cases h4
  exact this.2.2
theorem oO_run (t a m : Int × Nat) (w : Nat) : oO t a m w = none ↔ runO t a m (w + 1) = none := by
  unfold oO
  rw [runO]
  cases runO t a m w with
  | none => simp
  | some x => simp
theorem runO_le (t a m : Int × Nat) (w j : Nat) (h : runO t a m w = none) : runO t a m (w + j) = none := by
  induction j with
  | zero => exact h
  | succ j ih => rw [← Nat.add_assoc, runO, ih]; rfl
/-- the class, after w weeks -/
def RunL (t a m : Int × Nat) (L : Nat → Fq) (w : Nat) : Prop := L 25 = some t ∧ L 26 = some a ∧ L 27 = some m ∧ L 28 = some (1, 1) ∧ match runO t a m w with
  | none => L 31 = none
  | some x => L 30 = some x.1 ∧ L 31 = some x.2
theorem RunL_step {t a m : Int × Nat} {L : Nat → Fq} {w : Nat} (h : RunL t a m L w) : RunL t a m (passL L w) (w + 1) ∧ passL L w 32 = oO t a m w := by
  obtain ⟨h25, h26, h27, h28, hr⟩ := h
  unfold RunL oO
  rw [passL_keep L w 25 (by omega), passL_keep L w 26 (by omega), passL_keep L w 27 (by omega), passL_keep L w 28 (by omega), runO]
  cases e : runO t a m w with
  | none =>
    rw [e] at hr
    obtain ⟨g1, g2⟩ := passL_dead L w hr
    exact ⟨⟨h25, h26, h27, h28, g1⟩, g2⟩
  | some x =>
    rw [e] at hr
    have hl := passL_live L w h25 h26 h27 hr.1 hr.2
    simp only [Option.bind_some]
    cases e2 : passF t a m (dW w) x.1 x.2 with
    | none =>
      rw [e2] at hl
      exact ⟨⟨h25, h26, h27, h28, hl.1⟩, hl.2⟩
    | some r =>
      rw [e2] at hl
      exact ⟨⟨h25, h26, h27, h28, hl.1, hl.2.1⟩, hl.2.2⟩
theorem c_begin {n : Nat} (hn : 1000 ≤ n) {st : St} {t a m : Int × Nat} {L : Nat → Fq} (h : LnS st [25, 26, 27, 28] L) (h25 : L 25 = some t) (h26 : L 26 = some a) (h27 : L 27 = some m) (h28 : L 28 = some (1, 1)) : ∃ st1 L1, fX4_begin n st = some ((), st1) ∧ LnS st1 [25, 26, 27, 28, 30, 31, 35] L1 ∧ RunL t a m L1 0 ∧ L1 35 = some (0, 1) := by
  obtain ⟨s1, e1, h1⟩ := o_bec hn h 30 (p := 0) (q := 1) (by decide) (by decide) (by decide)
  obtain ⟨s2, e2, h2⟩ := o_bec hn h1 31 (p := 0) (q := 1) (by decide) (by decide) (by decide)
  obtain ⟨s3, e3, h3⟩ := o_bec hn h2 35 (p := 0) (q := 1) (by decide) (by decide) (by decide)
  refine ⟨s3, _, ?_, h3.mono (by decide), ?_, ?_⟩
  · simp only [fX4_begin, fX4_begin_s0, fX4_begin_s9, fX4_begin_s18, fX4_begin_s27]
    rw [show (1 : Int64) = lN 1 from rfl, show (0 : Int64) = lZ 0 from rfl, e1]
    simp only [Option.bind_some, e2, e3]
  · unfold RunL
    simp (config := { decide := true }) only [setF, if_true, if_false, h25, h26, h27, h28]
    exact ⟨trivial, trivial, trivial, trivial, by decide, by decide⟩
  · rw [setF_at]; decide
/-- what the invariant says of the straight rule -/
theorem line_both {st : St} (hI : Inv st) : ∃ t a m, vF t ∧ vF a ∧ vF m ∧ Tam st t a m ∧ (∃ L, LnS st [25, 26, 27, 28] L ∧ L 25 = some t ∧ L 26 = some a ∧ L 27 = some m ∧ L 28 = some (1, 1)) ∧ (t.1.natAbs ≤ 40 ∧ t.2 ≤ 20 ∧ a.1.natAbs ≤ 40 ∧ a.2 ≤ 20) ∧ st.2 161 0 = 1 ∧ st.2 162 0 = 1 := by
  obtain ⟨N, R, hP, hR, hT, hF, hTo, ⟨a, b, c, d, e, ⟨b1, b2, b3, b4⟩, ⟨d1, d2, d3, d4⟩, ⟨e1, e2⟩, ⟨x1, x2, x3, x4, x5⟩, ⟨y1, y2, y3, y4, y5⟩, ⟨z1, z2, z3, z4⟩, ⟨o1, o2, o3⟩, k1, k2⟩, hV, hW, hLe⟩ := id hI
  have vt : vF ((a : Int), b) := ⟨by show (a : Int).natAbs ≤ _; omega, b2, by show b ≤ _; omega⟩
  have va : vF ((c : Int), d) := ⟨by show (c : Int).natAbs ≤ _; omega, d2, by show d ≤ _; omega⟩
  have vm : vF ((e : Int), 1) := ⟨by show (e : Int).natAbs ≤ _; omega, Nat.le_refl 1, by show 1 ≤ _; omega⟩
  refine ⟨((a : Int), b), ((c : Int), d), ((e : Int), 1), vt, va, vm, ⟨?_, x5, ?_, y5, ?_, rfl⟩, ?_, ⟨?_, ?_, ?_, ?_⟩, k1, k2⟩
  · rw [x4, ← lZ_nat]
  · rw [y4, ← lZ_nat]
  · rw [z4, nI_l (by omega), ← lZ_nat]
  · refine ⟨fun k => if k = 25 then some ((a : Int), b) else if k = 26 then some ((c : Int), d) else if k = 27 then some ((e : Int), 1) else some (1, 1), ?_, rfl, rfl, rfl, rfl⟩
    intro k hk
    simp only [List.mem_cons, List.not_mem_nil, or_false] at hk
    rcases hk with rfl | rfl | rfl | rfl
    · exact ⟨⟨x3, by rw [x1, ← lZ_nat], x2⟩, fun q hq => by cases hq; exact vt⟩
    · exact ⟨⟨y3, by rw [y1, ← lZ_nat], y2⟩, fun q hq => by cases hq; exact va⟩
    · exact ⟨⟨z3, by rw [z1, ← lZ_nat], z2⟩, fun q hq => by cases hq; exact vm⟩
    · exact ⟨⟨o3, o1, o2⟩, fun q hq => by cases hq; exact ⟨by decide, by decide, by decide⟩⟩
  · show (a : Int).natAbs ≤ _; omega
  · show b ≤ _; omega
  · show (c : Int).natAbs ≤ _; omega
  · show d ≤ _; omega
theorem c_echo {n : Nat} (hn : 1000 ≤ n) {t a m : Int × Nat} (k : Nat) (hk : k ≤ 30) (b : Int32) : ∀ (j w : Nat) (st : St) (L : Nat → Fq), w ≤ k + 1 → k + 1 - w < j → LnS st [25, 26, 27, 28, 30, 31, 35] L → RunL t a m L w → (0 < w → Fr st 32 (oO t a m (w - 1))) → ∃ st1, fX10_echo_L32 n j (nI k) b (nI w) st = some (tellF (oO t a m k) b, st1) := by
  intro j
  induction j with
  | zero => intro w st L _ h; omega
  | succ j ih =>
    intro w st L hw hj hL hR h32
    simp only [fX10_echo_L32, fX10_echo_s32]
    by_cases q : w = k + 1
    · subst q
      rw [if_pos (nI_lt (by omega) (by omega))]
      simp only [fX10_echo_s51, c_tell n 32 b st (h32 (by omega)), Option.bind_some, fX10_echo_s62]
      exact ⟨st, rfl⟩
    · rw [if_neg (nI_nlt (by omega) (by omega))]
      obtain ⟨s1, e1, h1⟩ := c_pass hn hL w (by omega)
      obtain ⟨g1, g2⟩ := RunL_step hR
      simp only [fX10_echo_s37, e1, Option.bind_some, fX10_echo_s45, nI_1]
      exact ih (w + 1) s1 (passL L w) (by omega) (by omega) (h1.mono (by decide)) g1 (fun _ => by
        have := (h1 32 (by decide)).1
        rw [g2] at this
        exact this)
theorem m_echoes {n : Nat} (hn : 1000 ≤ n) {t a m : Int × Nat} (vt : vF t) (va : vF a) (vm : vF m) (k : Nat) (hk : k ≤ 30) : ∀ (j w : Nat) (st : St), w ≤ k + 1 → k + 1 - w < j → Tam st t a m → (match runO t a m w with | none => st.1 130 47 = 1 | some x => st.1 130 47 = 0 ∧ Fp st x.1 x.2 ∧ ∀ i, i < w → ∃ o, oO t a m i = some o ∧ st.2 159 i = lZ o.1 ∧ st.2 160 i = lN o.2) →
    ∃ st1, fX11_findEchoes_L27 n j (nI k) (nI w) st = some ((), st1) ∧ Tam st1 t a m ∧ (∀ j, st1.2 161 j = st.2 161 j ∧ st1.2 162 j = st.2 162 j) ∧ (match runO t a m (k + 1) with | none => st1.1 130 47 = 1 | some x => st1.1 130 47 = 0 ∧ Fp st1 x.1 x.2 ∧ ∀ i, i < k + 1 → ∃ o, oO t a m i = some o ∧ st1.2 159 i = lZ o.1 ∧ st1.2 160 i = lN o.2) := by
  intro j
  induction j with
  | zero => intro w st _ h; omega
  | succ j ih =>
    intro w st hw hj hT hS
    simp only [fX11_findEchoes_L27, fX11_findEchoes_s27]
    by_cases q : w = k + 1
    · subst q
      rw [if_pos (nI_lt (by omega) (by omega))]
      exact ⟨st, rfl, hT, fun _ => ⟨rfl, rfl⟩, hS⟩
    · rw [if_neg (nI_nlt (by omega) (by omega))]
      simp only [fX11_findEchoes_s32]
      cases e : runO t a m w with
      | none =>
        rw [e] at hS
        rw [if_neg (show ¬ st.1 130 47 = 0 by rw [hS]; decide)]
        refine ⟨st, rfl, hT, fun _ => ⟨rfl, rfl⟩, ?_⟩
        have := runO_le t a m w (k + 1 - w) e
        rw [show w + (k + 1 - w) = k + 1 by omega] at this
        rw [this]; exact hS
      | some x =>
        rw [e] at hS
        rw [if_pos hS.1]
        obtain ⟨v1, v2⟩ := runO_v vt va vm w x e
        obtain ⟨s1, g1, g2, g3, g4, g5⟩ := m_round hn vt va vm v1 v2 hT hS.2.1 hS.1 (fX11_findEchoes_L27 n j) (nI k) w (by omega)
        rw [g1]
        obtain ⟨s2, k1, k2, k3, k4⟩ := ih (w + 1) s1 (by omega) (by omega) g2 (by
          rw [runO, e]
          simp only [Option.bind_some]
          cases e2 : passF t a m (dW w) x.1 x.2 with
          | none => rw [e2] at g5; exact g5
          | some r =>
            rw [e2] at g5
            refine ⟨g5.1, g5.2.1, fun i hi => ?_⟩
            by_cases z : i = w
            · subst z
              exact ⟨r.2.2, by unfold oO; rw [e]; simp only [Option.bind_some, e2]; rfl, g5.2.2⟩
            · obtain ⟨o, o1, o2, o3⟩ := hS.2.2 i (by omega)
              exact ⟨o, o1, by rw [(g3 i z).1]; exact o2, by rw [(g3 i z).2]; exact o3⟩)
        exact ⟨s2, k1, k2, fun i => ⟨((k3 i).1).trans (g4 i).1, ((k3 i).2).trans (g4 i).2⟩, k4⟩
theorem m_find {n : Nat} (hn : 1000 ≤ n) {t a m : Int × Nat} (vt : vF t) (va : vF a) (vm : vF m) (k : Nat) (hk : k ≤ 30) (st : St) (hT : Tam st t a m) : ∃ st1, fX11_findEchoes n (nI k) st = some ((), st1) ∧ Tam st1 t a m ∧ (∀ j, st1.2 161 j = st.2 161 j ∧ st1.2 162 j = st.2 162 j) ∧ (match runO t a m (k + 1) with | none => st1.1 130 47 = 1 | some x => st1.1 130 47 = 0 ∧ Fp st1 x.1 x.2 ∧ ∀ i, i < k + 1 → ∃ o, oO t a m i = some o ∧ st1.2 159 i = lZ o.1 ∧ st1.2 160 i = lN o.2) := by
  simp only [fX11_findEchoes, fX11_findEchoes_s0, fX11_findEchoes_s5, fX11_findEchoes_s10, fX11_findEchoes_s15, fX11_findEchoes_s20, fX11_findEchoes_s25]
  obtain ⟨s0, es0⟩ : ∃ s0, s0 = setJ (setJ (setJ (setJ (setI st 130 47 0) 130 50 0) 130 51 1) 130 52 0) 130 53 1 := ⟨_, rfl⟩
  rw [← es0]
  have hf : Fp s0 (0, 1) (0, 1) := by
    rw [es0]
    refine ⟨?_, ?_, ?_, ?_⟩
    · rw [sJ_k (by decide), sJ_k (by decide), sJ_k (by decide), sJ_at]; rfl
    · rw [sJ_k (by decide), sJ_k (by decide), sJ_at]; rfl
    · rw [sJ_k (by decide), sJ_at]; rfl
    · rw [sJ_at]; rfl
  have hk2 : ∀ o k, ¬ (o = 130 ∧ 50 ≤ k ∧ k ≤ 53) → s0.2 o k = st.2 o k := by
    intro o k hk
    rw [es0]
    by_cases q : o = 130
    · subst q
      rw [sJ_k (by omega), sJ_k (by omega), sJ_k (by omega), sJ_k (by omega)]; rfl
    · rw [sJ_o q, sJ_o q, sJ_o q, sJ_o q]; rfl
  have h44 : s0.1 130 44 = st.1 130 44 := by
    rw [es0]
    show (setI st 130 47 0).1 130 44 = _
    rw [sI_k (by decide)]
  have hT0 : Tam s0 t a m := by
    obtain ⟨t1, t2, t3, t4, t5, t6⟩ := hT
    exact ⟨(hk2 130 40 (by decide)).trans t1, (hk2 130 41 (by decide)).trans t2, (hk2 130 42 (by decide)).trans t3, (hk2 130 43 (by decide)).trans t4, by rw [h44]; exact t5, t6⟩
  have h47 : s0.1 130 47 = 0 := by rw [es0]; show (setI st 130 47 0).1 130 47 = 0; exact sI_at
  obtain ⟨s1, g1, g2, g3, g4⟩ := m_echoes hn vt va vm k hk n 0 s0 (by omega) (by omega) hT0 ⟨h47, hf, fun i hi => by omega⟩
  exact ⟨s1, g1, g2, fun j => ⟨((g3 j).1).trans (hk2 161 j (by omega)), ((g3 j).2).trans (hk2 162 j (by omega))⟩, g4⟩
theorem Tam_ess {st st1 : St} {t a m : Int × Nat} (h : Ess st st1) (hT : Tam st t a m) : Tam st1 t a m := by
  obtain ⟨t1, t2, t3, t4, t5, t6⟩ := hT
  exact ⟨(h.2.2 (130, 40) (by decide)).trans t1, (h.2.2 (130, 41) (by decide)).trans t2, (h.2.2 (130, 42) (by decide)).trans t3, (h.2.2 (130, 43) (by decide)).trans t4, by rw [show st1.1 130 44 = st.1 130 44 from h.1.2 (130, 44) (by decide)]; exact t5, t6⟩
theorem SPecho (n : Nat) (hn : 1000 ≤ n) : SP_echo n Inv := by
  intro k a st hI
  obtain ⟨t, c, m, vt, va, vm, hT, ⟨L, hL, h25, h26, h27, h28⟩, -⟩ := line_both hI
  suffices hq : ∃ r st1, fX10_echo n k a st = some (r, st1) ∧ (Ess st st1 → ∃ st2, fX11_echo n k a st1 = some (r, st2)) by
    obtain ⟨r, st1, h1, h2⟩ := hq
    have hE := Ess.of (zX10_echo n k a st _ h1) rfl rfl
    have hI1 := hI.ess hE
    obtain ⟨st2, h3⟩ := h2 hE
    exact ⟨r, st1, st2, h1, h3, hI1.ess (Ess.of (zX11_echo n k a st1 _ h3) rfl rfl)⟩
  by_cases hk : 0 ≤ k ∧ k ≤ 30
  · obtain ⟨i, hi, rfl⟩ := nI_of2 (M := 30) (n := 30) rfl (le_of_nlt32.mpr hk.1) hk.2
    by_cases ha : 0 ≤ a ∧ a ≤ 1
    · obtain ⟨s0, L0, e0, hL0, hR0, -⟩ := c_begin hn hL h25 h26 h27 h28
      obtain ⟨s1, e1⟩ := c_echo hn i hi a n 0 s0 L0 (by omega) (by omega) hL0 hR0 (fun w => by omega)
      refine ⟨tellF (oO t c m i) a, s1, ?_, fun hE => ?_⟩
      · simp only [fX10_echo, fX10_echo_s0, pw, Option.bind_some, b1_pos hk, fX10_echo_s7, fX10_echo_s10, b1_pos ha, fX10_echo_s16, fX10_echo_s23, e0, fX10_echo_s30]
        exact e1
      · obtain ⟨s2, g1, g2, g3, g4⟩ := m_find hn vt va vm i hi s1 (Tam_ess hE hT)
        refine ⟨s2, ?_⟩
        simp only [fX11_echo, fX11_echo_s0, pinl (lo := 0) (hi := 30) (lo' := 0) (hi' := 30) (by decide) (by decide), Option.bind_some, b1_pos hk, fX11_echo_s9, fX11_echo_s12, pinl (lo := 0) (hi := 1) (lo' := 0) (hi' := 1) (by decide) (by decide), b1_pos ha, fX11_echo_s19, fX11_echo_s26, g1, fX11_echo_s31, fX11_echo_s38, fX11_echo_s44, fX11_echo_s48, fX11_echo_s57, fX11_echo_s63, inb_nI (show i < 31 by omega) (by decide), nI_clamp (show i < 2 ^ 31 by omega), if_true]
        rw [if_neg (show ¬ (1 : Int32) = 0 by decide), if_neg (show ¬ (1 : Int32) = 0 by decide)]
        cases e : runO t c m (i + 1) with
        | none =>
          rw [e] at g4
          rw [if_neg (show ¬ s2.1 130 47 = 0 by rw [g4]; decide), (oO_run t c m i).mpr e]
          rfl
        | some x =>
          rw [e] at g4
          obtain ⟨o, o1, o2, o3⟩ := g4.2.2 i (by omega)
          rw [if_pos g4.1, o1, o2, o3]
          unfold tellF
          by_cases q : a = 0
          · rw [if_pos q]; simp only [if_pos q]
          · rw [if_neg q]; simp only [if_neg q]
    · refine ⟨-9223372036854775808, st, ?_, fun _ => ⟨st, ?_⟩⟩
      · simp only [fX10_echo, fX10_echo_s0, pw, Option.bind_some, b1_pos hk, fX10_echo_s7, fX10_echo_s10, b1_neg ha, fX10_echo_s16, fX10_echo_s19]
        rfl
      · simp only [fX11_echo, fX11_echo_s0, pinl (lo := 0) (hi := 30) (lo' := 0) (hi' := 30) (by decide) (by decide), Option.bind_some, b1_pos hk, fX11_echo_s9, fX11_echo_s12, pinl (lo := 0) (hi := 1) (lo' := 0) (hi' := 1) (by decide) (by decide), b1_neg ha, fX11_echo_s19, fX11_echo_s22]
        rfl
  · refine ⟨-9223372036854775808, st, ?_, fun _ => ⟨st, ?_⟩⟩
    · simp only [fX10_echo, fX10_echo_s0, pw, Option.bind_some, b1_neg hk, fX10_echo_s7, fX10_echo_s19]
      rfl
    · simp only [fX11_echo, fX11_echo_s0, pinl (lo := 0) (hi := 30) (lo' := 0) (hi' := 30) (by decide) (by decide), Option.bind_some, b1_neg hk, fX11_echo_s9, fX11_echo_s22]
      rfl
