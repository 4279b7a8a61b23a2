/-! ===== the straight rule: a week of its echo, in both ===== -/
def setF (L : Nat → Fq) (b : Nat) (v : Fq) : Nat → Fq := fun c => if c = b then v else L c
theorem setF_at (L : Nat → Fq) (b : Nat) (v : Fq) : setF L b v b = v := if_pos rfl
theorem setF_o {L : Nat → Fq} {b c : Nat} {v : Fq} (h : c ≠ b) : setF L b v c = L c := if_neg h
def LnS (st : St) (B : List Nat) (L : Nat → Fq) : Prop := ∀ b, b ∈ B → Fr st b (L b) ∧ vO (L b)
theorem LnS.mono {st : St} {B B' : List Nat} {L : Nat → Fq} (h : LnS st B L) (hB : ∀ b, b ∈ B' → b ∈ B) : LnS st B' L := fun b hb => h b (hB b hb)
theorem Fr_keep {st st1 : St} {b c : Nat} {X : Fq} (h : Same [(b, some 2)] [(b, some 0), (b, some 1)] st st1) (hc : c ≠ b) (hF : Fr st c X) : Fr st1 c X := by
  have k1 : ∀ k, st1.1 c k = st.1 c k := fun k => h.1 c k (fun w => by
    rcases w with w | w
    · simp at w
    · simp only [List.mem_cons, List.not_mem_nil, or_false, Prod.mk.injEq] at w; exact hc w.1)
  have k2 : ∀ k, st1.2 c k = st.2 c k := fun k => h.2 c k (fun w => by
    rcases w with w | w
    · simp at w
    · simp only [List.mem_cons, List.not_mem_nil, or_false, Prod.mk.injEq] at w; exact w.elim (fun q => hc q.1) (fun q => hc q.1))
  cases X with
  | none => show st1.1 c 2 = 1; rw [k1]; exact hF
  | some x => exact ⟨(k1 2).trans hF.1, (k2 0).trans hF.2.1, (k2 1).trans hF.2.2⟩
theorem LnS_set {st st1 : St} {B : List Nat} {L : Nat → Fq} {b : Nat} {v : Fq} (h : LnS st B L) (hs : Same [(b, some 2)] [(b, some 0), (b, some 1)] st st1) (hv : Fr st1 b v) (hvv : vO v) : LnS st1 (b :: B) (setF L b v) := by
  intro c hc
  by_cases q : c = b
  · subst q; rw [setF_at]; exact ⟨hv, hvv⟩
  · rw [setF_o q]; have hc := (List.mem_cons.mp hc).resolve_left q; exact ⟨Fr_keep hs q (h c hc).1, (h c hc).2⟩
def addO (X Y : Fq) : Fq := X.bind fun a => Y.bind fun c => addF a c
def subO (X Y : Fq) : Fq := X.bind fun a => Y.bind fun c => subF a c
def mulO (X Y : Fq) : Fq := X.bind fun a => Y.bind fun c => mulF a c
theorem vO_none : vO none := fun _ h => by cases h
theorem addF_v {a c : Int × Nat} (ha : vF a) (hc : vF c) : vO (addF a c) ∧ vO (subF a c) ∧ vO (mulF a c) := by
  have h := (vF_add ha hc).2.2.2.1
  exact ⟨mkF_v h, mkF_v h, mkF_v h⟩
theorem addO_v {X Y : Fq} (hX : vO X) (hY : vO Y) : vO (addO X Y) ∧ vO (subO X Y) ∧ vO (mulO X Y) := by
  cases X with
  | none => exact ⟨vO_none, vO_none, vO_none⟩
  | some a => cases Y with
    | none => exact ⟨vO_none, vO_none, vO_none⟩
    | some c => exact addF_v (hX a rfl) (hY c rfl)
theorem o_sum {n : Nat} (hn : 1000 ≤ n) {st : St} {B : List Nat} {L : Nat → Fq} (h : LnS st B L) (b x y : Nat) (hx : x ∈ B) (hy : y ∈ B) : ∃ st1, fX2_becomeSum n b x y st = some ((), st1) ∧ LnS st1 (b :: B) (setF L b (addO (L x) (L y))) := by
  obtain ⟨x1, x2⟩ := h x hx
  obtain ⟨y1, y2⟩ := h y hy
  obtain ⟨s1, e1, e2, e3⟩ := c_sum n b x y hn st x1 y1 x2 y2
  exact ⟨s1, e1, LnS_set h e3 e2 (addO_v x2 y2).1⟩
theorem o_dif {n : Nat} (hn : 1000 ≤ n) {st : St} {B : List Nat} {L : Nat → Fq} (h : LnS st B L) (b x y : Nat) (hx : x ∈ B) (hy : y ∈ B) : ∃ st1, fX2_becomeDifference n b x y st = some ((), st1) ∧ LnS st1 (b :: B) (setF L b (subO (L x) (L y))) := by
  obtain ⟨x1, x2⟩ := h x hx
  obtain ⟨y1, y2⟩ := h y hy
  obtain ⟨s1, e1, e2, e3⟩ := c_dif n b x y hn st x1 y1 x2 y2
  exact ⟨s1, e1, LnS_set h e3 e2 (addO_v x2 y2).2.1⟩
theorem o_prd {n : Nat} (hn : 1000 ≤ n) {st : St} {B : List Nat} {L : Nat → Fq} (h : LnS st B L) (b x y : Nat) (hx : x ∈ B) (hy : y ∈ B) : ∃ st1, fX2_becomeProduct n b x y st = some ((), st1) ∧ LnS st1 (b :: B) (setF L b (mulO (L x) (L y))) := by
  obtain ⟨x1, x2⟩ := h x hx
  obtain ⟨y1, y2⟩ := h y hy
  obtain ⟨s1, e1, e2, e3⟩ := c_prd n b x y hn st x1 y1 x2 y2
  exact ⟨s1, e1, LnS_set h e3 e2 (addO_v x2 y2).2.2⟩
theorem o_bec {n : Nat} (hn : 1000 ≤ n) {st : St} {B : List Nat} {L : Nat → Fq} (h : LnS st B L) (b : Nat) {p : Int} {q : Nat} (hp : p.natAbs < 2 ^ 63) (hq : 1 ≤ q) (hq2 : q < 2 ^ 63) : ∃ st1, fX2_become n b (lZ p) (lN q) st = some ((), st1) ∧ LnS st1 (b :: B) (setF L b (mkF p q)) := by
  obtain ⟨s1, e1, e2, e3⟩ := c_become n b hn st hp hq hq2
  exact ⟨s1, e1, LnS_set h e3 e2 (mkF_v hq)⟩
def dW (w : Nat) : Int × Nat := (if w = 0 then 1 else 0, 1)
theorem dW_v (w : Nat) : vF (dW w) := by
  unfold dW vF
  by_cases h : w = 0
  · rw [if_pos h]; decide
  · rw [if_neg h]; decide
theorem dW_mk (w : Nat) : mkF (dW w).1 1 = some (dW w) := by
  unfold dW
  by_cases h : w = 0
  · rw [if_pos h]; decide
  · rw [if_neg h]; decide
def pL1 (L : Nat → Fq) (w : Nat) : Nat → Fq := setF L 29 (mkF (dW w).1 1)
def pL2 (L : Nat → Fq) : Nat → Fq := setF L 33 (subO (L 29) (L 30))
def pL3 (L : Nat → Fq) : Nat → Fq := setF L 33 (mulO (L 25) (L 33))
def pL4 (L : Nat → Fq) : Nat → Fq := setF L 30 (addO (L 30) (L 33))
def pL5 (L : Nat → Fq) : Nat → Fq := setF L 31 (subO (L 31) (L 29))
def pL6 (L : Nat → Fq) : Nat → Fq := setF L 33 (mulO (L 27) (L 30))
def pL7 (L : Nat → Fq) : Nat → Fq := setF L 33 (subO (L 33) (L 31))
def pL8 (L : Nat → Fq) : Nat → Fq := setF L 33 (mulO (L 26) (L 33))
def pL9 (L : Nat → Fq) : Nat → Fq := setF L 32 (addO (L 29) (L 33))
def pL10 (L : Nat → Fq) : Nat → Fq := setF L 31 (addO (L 31) (L 32))
def pL11 (L : Nat → Fq) : Nat → Fq := setF L 32 ((L 31).bind fun _ => L 32)
def passL (L : Nat → Fq) (w : Nat) : Nat → Fq := pL11 (pL10 (pL9 (pL8 (pL7 (pL6 (pL5 (pL4 (pL3 (pL2 (pL1 L w))))))))))
theorem c_pass {n : Nat} (hn : 1000 ≤ n) {st : St} {L : Nat → Fq} (h : LnS st [25, 26, 27, 28, 30, 31, 35] L) (w : Nat) (hw : w < 1000) : ∃ st1, fX4_pass n (nI w) st = some ((), st1) ∧ LnS st1 [25, 26, 27, 28, 29, 30, 31, 32, 33, 35] (passL L w) := by
  obtain ⟨s1, e1, h1⟩ := o_bec hn h 29 (p := (dW w).1) (q := 1) (by have := (dW_v w).1; omega) (by decide) (by decide)
  obtain ⟨s2, e2, h2⟩ := o_dif hn h1 33 29 30 (by decide) (by decide)
  obtain ⟨s3, e3, h3⟩ := o_prd hn h2 33 25 33 (by decide) (by decide)
  obtain ⟨s4, e4, h4⟩ := o_sum hn h3 30 30 33 (by decide) (by decide)
  obtain ⟨s5, e5, h5⟩ := o_dif hn h4 31 31 29 (by decide) (by decide)
  obtain ⟨s6, e6, h6⟩ := o_prd hn h5 33 27 30 (by decide) (by decide)
  obtain ⟨s7, e7, h7⟩ := o_dif hn h6 33 33 31 (by decide) (by decide)
  obtain ⟨s8, e8, h8⟩ := o_prd hn h7 33 26 33 (by decide) (by decide)
  obtain ⟨s9, e9, h9⟩ := o_sum hn h8 32 29 33 (by decide) (by decide)
  obtain ⟨s10, e10, h10⟩ := o_sum hn h9 31 31 32 (by decide) (by decide)
  have hx : fX4_pass n (nI w) st = fX4_pass_s13 n (lZ (dW w).1) st := by
    simp only [fX4_pass, fX4_pass_s0, fX4_pass_s8, fX4_pass_s12, dW]
    by_cases q : w = 0
    · subst q; rfl
    · rw [if_neg (nI_ne0 (by omega) (by omega)), if_neg q]; rfl
  have hy : fX4_pass n (nI w) st = fX4_pass_s152 n s10 := by
    rw [hx]
    simp only [fX4_pass_s13]
    rw [show (1 : Int64) = lN 1 from rfl, e1]
    simp only [Option.bind_some, fX4_pass_s17, e2, fX4_pass_s32, e3, fX4_pass_s47, e4, fX4_pass_s62, e5, fX4_pass_s77, e6, fX4_pass_s92, e7, fX4_pass_s107, e8, fX4_pass_s122, e9, fX4_pass_s137, e10]
  rw [hy]
  change LnS s10 _ (pL10 (pL9 (pL8 (pL7 (pL6 (pL5 (pL4 (pL3 (pL2 (pL1 L w)))))))))) at h10
  show ∃ st1, fX4_pass_s152 n s10 = some ((), st1) ∧ LnS st1 [25, 26, 27, 28, 29, 30, 31, 32, 33, 35] (pL11 (pL10 (pL9 (pL8 (pL7 (pL6 (pL5 (pL4 (pL3 (pL2 (pL1 L w)))))))))))
  replace h10 := LnS.mono (B' := [25, 26, 27, 28, 29, 30, 31, 32, 33, 35]) h10 (by decide)
  generalize pL10 (pL9 (pL8 (pL7 (pL6 (pL5 (pL4 (pL3 (pL2 (pL1 L w))))))))) = M at h10 ⊢
  obtain ⟨f1, v1⟩ := h10 31 (by decide)
  obtain ⟨f2, v2⟩ := h10 32 (by decide)
  have hs : ∀ v : Int32, Same [(32, some 2)] [(32, some 0), (32, some 1)] s10 (setI s10 32 2 v) := fun v => same_I (Or.inr (mm2 0 rfl))
  simp only [fX4_pass_s152, fX4_pass_s166, fX4_pass_s176, fX4_pass_s180, fX4_pass_s181, fX4_pass_s184]
  unfold pL11
  cases hM : M 32 with
  | none =>
    rw [hM] at f2
    rw [if_neg (show ¬ s10.1 32 2 = 0 by rw [f2]; decide)]
    refine ⟨setI s10 32 2 1, rfl, ?_⟩
    cases M 31 with
    | none => exact (LnS_set (v := none) h10 (hs 1) sI_at vO_none).mono (by decide)
    | some x => exact (LnS_set (v := none) h10 (hs 1) sI_at vO_none).mono (by decide)
  | some y =>
    rw [hM] at f2 v2
    rw [if_pos f2.1]
    cases hM1 : M 31 with
    | none =>
      rw [hM1] at f1
      rw [if_neg (show ¬ s10.1 31 2 = 0 by rw [f1]; decide)]
      exact ⟨setI s10 32 2 1, rfl, (LnS_set (v := none) h10 (hs 1) sI_at vO_none).mono (by decide)⟩
    | some x =>
      rw [hM1] at f1
      rw [if_pos f1.1]
      exact ⟨setI s10 32 2 0, rfl, (LnS_set (v := some y) h10 (hs 0) ⟨sI_at, f2.2.1, f2.2.2⟩ v2).mono (by decide)⟩
/-- a week, if nothing is spent in it -/
def passF (t a m d f p : Int × Nat) : Option ((Int × Nat) × (Int × Nat) × (Int × Nat)) :=
  (subF d f).bind fun x1 => (mulF t x1).bind fun x2 => (addF f x2).bind fun f' => (subF p d).bind fun p1 => (mulF m f').bind fun x3 => (subF x3 p1).bind fun x4 => (mulF a x4).bind fun x5 => (addF d x5).bind fun o => (addF p1 o).bind fun p' => some (f', p', o)
theorem passL_keep (L : Nat → Fq) (w c : Nat) (h : c < 29 ∨ 33 < c) : passL L w c = L c := by
  unfold passL pL11 pL10 pL9 pL8 pL7 pL6 pL5 pL4 pL3 pL2 pL1
  rw [setF_o (by omega), setF_o (by omega), setF_o (by omega), setF_o (by omega), setF_o (by omega), setF_o (by omega), setF_o (by omega), setF_o (by omega), setF_o (by omega), setF_o (by omega), setF_o (by omega)]
theorem passL_at (L : Nat → Fq) (w : Nat) : ∃ f' p1 o p', f' = addO (L 30) (mulO (L 25) (subO (some (dW w)) (L 30))) ∧ p1 = subO (L 31) (some (dW w)) ∧ o = addO (some (dW w)) (mulO (L 26) (subO (mulO (L 27) f') p1)) ∧ p' = addO p1 o ∧ passL L w 30 = f' ∧ passL L w 31 = p' ∧ passL L w 32 = p'.bind fun _ => o := by
  refine ⟨_, _, _, _, rfl, rfl, rfl, rfl, ?_, ?_, ?_⟩
  all_goals
    unfold passL pL11 pL10 pL9 pL8 pL7 pL6 pL5 pL4 pL3 pL2 pL1
    simp (config := { decide := true }) only [setF, if_true, if_false, dW_mk]
theorem passL_dead (L : Nat → Fq) (w : Nat) (h : L 31 = none) : passL L w 31 = none ∧ passL L w 32 = none := by
  obtain ⟨f', p1, o, p', -, e2, -, e4, -, g2, g3⟩ := passL_at L w
  rw [h] at e2
  have : p' = none := by rw [e4, e2]; rfl
  rw [g2, g3, this]
  exact ⟨rfl, rfl⟩
theorem passL_live (L : Nat → Fq) (w : Nat) {t a m f p : Int × Nat} (h25 : L 25 = some t) (h26 : L 26 = some a) (h27 : L 27 = some m) (h30 : L 30 = some f) (h31 : L 31 = some p) : match passF t a m (dW w) f p with
    | none => passL L w 31 = none ∧ passL L w 32 = none
    | some r => passL L w 30 = some r.1 ∧ passL L w 31 = some r.2.1 ∧ passL L w 32 = some r.2.2 := by
  obtain ⟨f', p1, o, p', e1, e2, e3, e4, g1, g2, g3⟩ := passL_at L w
  rw [g1, g2, g3]
  rw [h25, h30] at e1
  rw [h31] at e2
  rw [h26, h27] at e3
  unfold passF
  cases c1 : subF (dW w) f with
  | none =>
    have x1 : f' = none := by rw [e1]; unfold addO mulO subO; simp only [Option.bind_some, c1, Option.bind_none]
    have x2 : o = none := by rw [e3, x1]; rfl
    have x3 : p' = none := by rw [e4, x2]; cases p1 <;> rfl
    rw [x3]; exact ⟨rfl, rfl⟩
  | some y1 =>
    cases c2 : mulF t y1 with
    | none =>
      have x1 : f' = none := by rw [e1]; unfold addO mulO subO; simp only [Option.bind_some, c1, c2, Option.bind_none]
      have x2 : o = none := by rw [e3, x1]; rfl
      have x3 : p' = none := by rw [e4, x2]; cases p1 <;> rfl
      rw [x3]; simp only [Option.bind_some, c2]; exact ⟨trivial, rfl⟩
    | some y2 =>
      have x1 : f' = addF f y2 := by rw [e1]; unfold addO mulO subO; simp only [Option.bind_some, c1, c2]
      simp only [Option.bind_some, c2]
      cases c3 : addF f y2 with
      | none =>
        rw [c3] at x1
        have x2 : o = none := by rw [e3, x1]; rfl
        have x3 : p' = none := by rw [e4, x2]; cases p1 <;> rfl
        rw [x3]; exact ⟨rfl, rfl⟩
      | some y3 =>
        rw [c3] at x1
        have x2 : p1 = subF p (dW w) := by rw [e2]; rfl
        cases c4 : subF p (dW w) with
        | none =>
          rw [c4] at x2
          have x3 : p' = none := by rw [e4, x2]; rfl
          rw [x3]; exact ⟨rfl, rfl⟩
        | some y4 =>
          rw [c4] at x2
          rw [x1, x2] at e3
          rw [x2] at e4
          simp only [Option.bind_some]
          cases c5 : mulF m y3 with
          | none =>
            have x3 : o = none := by rw [e3]; unfold addO mulO subO; simp only [Option.bind_some, c5, Option.bind_none]
            have x4 : p' = none := by rw [e4, x3]; rfl
            rw [x4]; exact ⟨rfl, rfl⟩
          | some y5 =>
            simp only [Option.bind_some]
            cases c6 : subF y5 y4 with
            | none =>
              have x3 : o = none := by rw [e3]; unfold addO mulO subO; simp only [Option.bind_some, c5, c6, Option.bind_none]
              have x4 : p' = none := by rw [e4, x3]; rfl
              rw [x4]; exact ⟨rfl, rfl⟩
            | some y6 =>
              simp only [Option.bind_some]
              cases c7 : mulF a y6 with
              | none =>
                have x3 : o = none := by rw [e3]; unfold addO mulO subO; simp only [Option.bind_some, c5, c6, c7, Option.bind_none]
                have x4 : p' = none := by rw [e4, x3]; rfl
                rw [x4]; exact ⟨rfl, rfl⟩
              | some y7 =>
                have x3 : o = addF (dW w) y7 := by rw [e3]; unfold addO mulO subO; simp only [Option.bind_some, c5, c6, c7]
                simp only [Option.bind_some]
                cases c8 : addF (dW w) y7 with
                | none =>
                  rw [c8] at x3
                  have x4 : p' = none := by rw [e4, x3]; rfl
                  rw [x4]; exact ⟨rfl, rfl⟩
                | some y8 =>
                  rw [c8] at x3
                  have x4 : p' = addF y4 y8 := by rw [e4, x3]; rfl
                  simp only [Option.bind_some]
                  cases c9 : addF y4 y8 with
                  | none => rw [c9] at x4; rw [x4]; exact ⟨rfl, rfl⟩
                  | some y9 => rw [c9] at x4; rw [x4, x1, x3]; exact ⟨rfl, rfl, rfl⟩
