/-! ===== rule: the reference's turns ===== -/
def Rch (n k : Nat) (w : Int32) (r : St) (k' : Nat) (w' : Int32) (r' : St) : Prop := ∃ t, t + k ≤ k' ∧ ∀ j, fX11_reads_L19 n (j + t) (nI k) w r = fX11_reads_L19 n j (nI k') w' r'
def EndR (n T R : Nat) (Q : Nat → Int32) (k : Nat) (w : Int32) (r : St) (p : Nat) : Prop := ∃ t, t + k ≤ T + 3 ∧ ∀ j, ∃ r1, fX11_reads_L19 n (j + t) (nI k) w r = some (nI p, r1) ∧ ∀ i, i < 120 * R → r1.1 154 i = Q i
theorem Rch.tr {n k1 k2 k3 : Nat} {w1 w2 w3 : Int32} {r1 r2 r3 : St} (h : Rch n k1 w1 r1 k2 w2 r2) (g : Rch n k2 w2 r2 k3 w3 r3) : Rch n k1 w1 r1 k3 w3 r3 := by
  obtain ⟨t, ht, h⟩ := h
  obtain ⟨u, hu, g⟩ := g
  exact ⟨u + t, by omega, fun j => by rw [← Nat.add_assoc, h, g]⟩
theorem Rch.en {n T R k1 k2 : Nat} {Q : Nat → Int32} {w1 w2 : Int32} {r1 r2 : St} {p : Nat} (h : Rch n k1 w1 r1 k2 w2 r2) (g : EndR n T R Q k2 w2 r2 p) : EndR n T R Q k1 w1 r1 p := by
  obtain ⟨t, ht, h⟩ := h
  obtain ⟨u, hu, g⟩ := g
  exact ⟨u + t, by omega, fun j => by rw [← Nat.add_assoc, h]; exact g j⟩
section
variable {T R n : Nat} {B Q : Nat → Int32}
theorem RS.by {r : St} {S : List Int32} {o : Nat} {D : List Int32} (h : RS T R B Q r S o D) (hB : T ≤ 120) {k : Nat} (hk : k ≤ 200) : fX11_byteAt n (nI k) r = some (bt B T k, r) := m_byteAt n k r h.1.1 h.1.2.2.1 hB hk
theorem m_itop {k k' : Nat} {r r1 : St} (hB : T ≤ 120) (hk : k ≤ k') (h1 : 1 ≤ k') (h2 : k' ≤ 200) (hl : k < k') (h : fX11_operand n (nI k) r = some (nI k', r1)) (e1 : r1.1 130 32 = nI T) (e2 : ∀ j, j < T → r1.1 155 j = B j) : Rch n k 1 r k' (if bt B T (k' - 1) = 40 then 1 else 0) r1 := by
  refine ⟨1, by omega, fun j => ?_⟩
  have hb : fX11_byteAt n (nI k' - 1) r1 = some (bt B T (k' - 1), r1) := by
    have : nI k' - 1 = nI (k' - 1) := by
      obtain ⟨v, rfl⟩ : ∃ v, k' = v + 1 := ⟨k' - 1, by omega⟩
      rw [nI_pred, Nat.add_sub_cancel]
    rw [this]; exact m_byteAt n (k' - 1) r1 e1 e2 hB (by omega)
  have n1 : ¬ (1 : Int32) = 0 := by decide
  simp only [fX11_reads_L19, fX11_reads_s19, if_neg n1, fX11_reads_s31, fX11_reads_s35, h, Option.bind_some, fX11_reads_s40, fX11_reads_s48, if_pos (show (0 : Int32) ≤ nI k' from nI_pos' (by omega)), fX11_reads_s57, fX11_reads_s75, fX11_reads_s76, fX11_reads_s82, hb, fX11_reads_s89]
  by_cases q : bt B T (k' - 1) = 40
  · rw [if_pos q, if_pos q]
    simp only [fX11_reads_s94, fX11_reads_s99, if_neg n1, fX11_reads_s105, fX11_reads_s120]
  · rw [if_neg q, if_neg q]
    simp only [fX11_reads_s98, fX11_reads_s99, if_neg n1, fX11_reads_s105, fX11_reads_s120]
theorem neg1 (p : Nat) (hp : p < 2 ^ 30) : ¬ (0 : Int32) ≤ -1 - nI p ∧ (-1 : Int32) - (-1 - nI p) = nI p := by
  have e : (-1 - nI p : Int32) = iZ (-1 - p) := by rw [show (-1 : Int32) = iZ (-1) from by decide, ← iZ_nat, iZ_sub]
  refine ⟨?_, ?_⟩
  · rw [e, Int32.le_iff_toInt_le, iZ_ti (by omega)]
    have : (0 : Int32).toInt = 0 := rfl
    omega
  · rw [e, show (-1 : Int32) = iZ (-1) from by decide, iZ_sub, ← iZ_nat]
    congr 1; omega
theorem m_s48f (n : Nat) (K : Int32 → Int32 → St → Option (Int32 × St)) (v1 v2 : Int32) (p : Nat) (hp : p < 1000) (r : St) : fX11_reads_s48 n K v1 v2 (-1 - nI p) r = some (nI p, r) := by
  obtain ⟨n1, n2⟩ := neg1 p (by omega)
  unfold fX11_reads_s48 fX11_reads_s53
  rw [if_neg n1, n2]
theorem m_e48 {k j : Nat} {v : Int32} {r r1 : St} (h : fX11_operand n (nI k) r = some (v, r1)) : fX11_reads_L19 n (j + 1) (nI k) 1 r = fX11_reads_s48 n (fX11_reads_L19 n j) (nI k) 1 v r1 := by
  have n0 : ¬ (1 : Int32) = 0 := by decide
  simp only [fX11_reads_L19, fX11_reads_s19, if_neg n0, fX11_reads_s31, fX11_reads_s35, h, Option.bind_some, fX11_reads_s40]
theorem m_b48 {k j : Nat} {v : Int32} {r r1 : St} (hkT : k < T) (hB : T < 2 ^ 31) (hT : r.1 130 32 = nI T) (h : fX11_behind n (nI k) r = some (v, r1)) : fX11_reads_L19 n (j + 1) (nI k) 0 r = fX11_reads_s48 n (fX11_reads_L19 n j) (nI k) 0 v r1 := by
  simp only [fX11_reads_L19, fX11_reads_s19, if_true, fX11_reads_s23, hT, if_neg (nI_ge hkT (by omega)), fX11_reads_s31, fX11_reads_s43, h, Option.bind_some]
theorem m_itopf {k p : Nat} {r r1 : St} (hk : k ≤ T) (hp : p ≤ 200) (h : fX11_operand n (nI k) r = some (-1 - nI p, r1)) (hQ : ∀ i, i < 120 * R → r1.1 154 i = Q i) : EndR n T R Q k 1 r p := by
  refine ⟨1, by omega, fun j => ⟨r1, ?_, hQ⟩⟩
  exact (m_e48 h).trans (m_s48f n _ _ _ p (by omega) r1)
theorem m_itbe {k k' : Nat} {r r1 : St} (hB : T ≤ 120) (hkT : k < T) (hT : r.1 130 32 = nI T) (hl : k < k') (h2 : k' ≤ 200) (h : fX11_behind n (nI k) r = some (nI k', r1)) (e1 : r1.1 130 32 = nI T) (e2 : ∀ j, j < T → r1.1 155 j = B j) : Rch n k 0 r k' (if bt B T k = 41 then 0 else 1) r1 := by
  refine ⟨1, by omega, fun j => ?_⟩
  have hb := m_byteAt n k r1 e1 e2 hB (by omega)
  simp only [fX11_reads_L19, fX11_reads_s19, if_true, fX11_reads_s23, hT, if_neg (nI_ge hkT (by omega)), fX11_reads_s31, fX11_reads_s43, h, Option.bind_some, fX11_reads_s48, if_pos (show (0 : Int32) ≤ nI k' from nI_pos' (by omega)), fX11_reads_s57, fX11_reads_s61, hb, fX11_reads_s66]
  by_cases q : bt B T k = 41
  · rw [if_pos q, if_pos q]
    simp only [fX11_reads_s71, fX11_reads_s76, if_true, fX11_reads_s98, fX11_reads_s99, fX11_reads_s110, if_neg (show ¬ (1 : Int32) = 0 by decide), fX11_reads_s119, fX11_reads_s120]
  · rw [if_neg q, if_neg q]
    simp only [fX11_reads_s75, fX11_reads_s76, if_true, fX11_reads_s98, fX11_reads_s99, fX11_reads_s110, fX11_reads_s115, fX11_reads_s120]
theorem m_itbef {k p : Nat} {r r1 : St} (hB : T ≤ 120) (hkT : k < T) (hT : r.1 130 32 = nI T) (hp : p ≤ 200) (h : fX11_behind n (nI k) r = some (-1 - nI p, r1)) (hQ : ∀ i, i < 120 * R → r1.1 154 i = Q i) : EndR n T R Q k 0 r p := by
  refine ⟨1, by omega, fun j => ⟨r1, ?_, hQ⟩⟩
  exact (m_b48 hkT (by omega) hT h).trans (m_s48f n _ _ _ p (by omega) r1)
/-- the tape ends within something open -/
theorem m_itend {r : St} {S : List Int32} {o : Nat} {D : List Int32} (hB : T ≤ 120) (ho : o ≤ 6) (h : RS T R B Q r S (o + 1) D) : EndR n T R Q T 0 r T := by
  refine ⟨1, by omega, fun j => ⟨r, ?_, h.2.2.2.2.2⟩⟩
  have e36 : r.1 130 36 = nI (o + 1) := h.2.2.1
  simp only [fX11_reads_L19, fX11_reads_s19, if_true, fX11_reads_s23, h.1.1, if_pos (Int32.le_refl _), fX11_reads_s126, e36, if_neg (nI_nle (show 0 < o + 1 by omega) (by omega)), fX11_reads_s133]
theorem m_opens {k o : Nat} {mk : Int32} {r : St} {S : List Int32} {D : List Int32} (ho : o < 6) (hS : S.length < 130) (h : RS T R B Q r S o D) : ∃ r1, fX11_opensAt n (nI k) mk r = some (nI (k + 1), r1) ∧ RS T R B Q r1 (mk :: S) (o + 1) D := by
  have e36 : r.1 130 36 = nI o := h.2.2.1
  have e35 : r.1 130 35 = nI S.length := h.2.1.1
  have h1 : RS T R B Q (setI r 130 36 (nI (o + 1))) S (o + 1) D := h.opens
  have e35' : (setI r 130 36 (nI (o + 1))).1 130 35 = nI S.length := by rw [sI_k (by decide)]; exact e35
  have e35'' : (setI (setI r 130 36 (nI (o + 1))) 157 S.length mk).1 130 35 = nI S.length := by rw [sI_o (by decide)]; exact e35'
  simp only [fX11_opensAt, fX11_opensAt_s0, e36, if_neg (show ¬ nI o = 6 from fun w => by have := (nI_eq (b := 6) (by omega) (by decide)).mp w; omega), fX11_opensAt_s13, nI_1, fX11_opensAt_s23, e35', inb_nI hS (by decide), nI_clamp (show S.length < 2 ^ 31 by omega), if_true, fX11_opensAt_s33, e35'', fX11_opensAt_s43]
  exact ⟨_, rfl, h1.push⟩
theorem m_opensf {k : Nat} {mk : Int32} {r : St} {S : List Int32} {D : List Int32} (h : RS T R B Q r S 6 D) : fX11_opensAt n (nI k) mk r = some (-1 - nI k, r) := by
  have e36 : r.1 130 36 = nI 6 := h.2.2.1
  simp only [fX11_opensAt, fX11_opensAt_s0, e36, if_pos (show nI 6 = 6 by decide), fX11_opensAt_s9]
theorem m_beop {k o : Nat} {op : Int32} {r : St} {pend S : List Int32} {D : List Int32} (hn : 200 ≤ n) (hR : R < 12) (hB : T ≤ 120) (hk : k < T) (hop : bt B T k = op) (hr : 1 ≤ rk op) (hp : ∀ x, x ∈ pend → rk op ≤ rk x) (hS : rkL S < rk op) (h : RS T R B Q r (pend ++ S) o D) (hb : D.length + (pend ++ S).length ≤ 119) : ∃ r1, fX11_behind n (nI k) r = some (nI (k + 1), r1) ∧ RS T R B Q r1 (op :: S) o (D ++ pend.map (fun x => 20000 + x)) := by
  have h2 := rk_le op
  have hpl : pend.length ≤ 119 := by rw [List.length_append] at hb; omega
  have hSl : S.length ≤ 119 := by rw [List.length_append] at hb; omega
  obtain ⟨r2, g0, g1⟩ := m_unw n (rk op) hR hr h2 S o hS pend n r D (by omega) hp h (by omega)
  have e35 : r2.1 130 35 = nI S.length := g1.2.1.1
  have e35' : (setI r2 157 S.length op).1 130 35 = nI S.length := by rw [sI_o (by decide)]; exact e35
  simp only [fX11_behind, fX11_behind_s0, h.by hB (show k ≤ 200 by omega), Option.bind_some, hop, fX11_behind_s5, m_rank, fX11_behind_s10, if_neg (nI_nle (show 0 < rk op by omega) (by omega)), fX11_behind_s13, fX11_behind_s18, fX11_unwinds, g0, fX11_behind_s21, e35, inb_nI (show S.length < 130 by omega) (by decide), nI_clamp (show S.length < 2 ^ 31 by omega), if_true, fX11_behind_s31, e35', nI_1, fX11_behind_s41]
  exact ⟨_, rfl, g1.push⟩
theorem m_scan {v1 v2 : Int32} {r : St} {S : List Int32} (hS : rkL S = 0) : ∀ (pend : List Int32) (j : Nat), pend.length < j → (∀ x, x ∈ pend → 1 ≤ rk x) → StI (r.1 157) (pend ++ S) → (pend ++ S).length ≤ 120 → fX11_behind_L52 n j v1 v2 (nI (pend ++ S).length - 1) r = fX11_behind_s74 n v1 v2 (nI S.length - 1) r := by
  intro pend
  induction pend with
  | nil =>
    intro j hj _ hs hb
    obtain ⟨i, rfl⟩ : ∃ i, j = i + 1 := ⟨j - 1, by simp at hj; omega⟩
    simp only [fX11_behind_L52, fX11_behind_s52, List.nil_append]
    match S, hS, hs, hb with
    | [], _, _, _ => rw [if_pos (show nI ([] : List Int32).length - 1 < 0 by decide)]
    | x :: S', hS, hs, hb =>
      have hb' : S'.length + 1 ≤ 120 := by simpa using hb
      have e : nI (x :: S').length - 1 = nI S'.length := nI_pred S'.length
      have ev : r.1 157 S'.length = x := hs.1
      have hx : rk x = 0 := hS
      rw [e, if_neg (nI_pos (by omega))]
      simp only [fX11_behind_s56, inb_nI (show S'.length < 130 by omega) (by decide), nI_clamp (show S'.length < 2 ^ 31 by omega), if_true, ev, m_rank, Option.bind_some, fX11_behind_s65, hx]
      rw [if_pos (show nI 0 ≤ 0 by decide)]
  | cons x pend ih =>
    intro j hj hp hs hb
    obtain ⟨i, rfl⟩ : ∃ i, j = i + 1 := ⟨j - 1, by simp at hj; omega⟩
    have hb' : (pend ++ S).length + 1 ≤ 120 := hb
    have e : nI ((x :: pend) ++ S).length - 1 = nI (pend ++ S).length := nI_pred (pend ++ S).length
    have ev : r.1 157 (pend ++ S).length = x := hs.1
    have hx := hp x List.mem_cons_self
    have hx2 := rk_le x
    simp only [fX11_behind_L52, fX11_behind_s52]
    rw [e, if_neg (nI_pos (by omega))]
    simp only [fX11_behind_s56, inb_nI (show (pend ++ S).length < 130 by omega) (by decide), nI_clamp (show (pend ++ S).length < 2 ^ 31 by omega), if_true, ev, m_rank, Option.bind_some, fX11_behind_s65, if_neg (nI_nle (show 0 < rk x by omega) (by omega)), fX11_behind_s68]
    rw [show nI (pend ++ S).length + (-1) = nI (pend ++ S).length - 1 from (Int32.sub_eq_add_neg _ _).symm]
    exact ih i (by simp at hj; omega) (fun y hy => hp y (List.mem_cons_of_mem _ hy)) hs.2 (by omega)
theorem m_bemark {k o : Nat} {r : St} {pend S : List Int32} {D : List Int32} (hn : 200 ≤ n) (hB : T ≤ 120) (hk : k ≤ T) (h0 : rk (bt B T k) = 0) (hp : ∀ x, x ∈ pend → 1 ≤ rk x) (hS : rkL S = 0) (h : RS T R B Q r (pend ++ S) o D) (hb : (pend ++ S).length ≤ 120) : fX11_behind n (nI k) r = fX11_behind_s88 n (nI k) (bt B T k) (S.headD 0) r := by
  have hpl : pend.length ≤ 120 := by rw [List.length_append] at hb; omega
  have hSl : S.length ≤ 120 := by rw [List.length_append] at hb; omega
  have e35 : r.1 130 35 = nI (pend ++ S).length := h.2.1.1
  simp only [fX11_behind, fX11_behind_s0, h.by hB (show k ≤ 200 by omega), Option.bind_some, fX11_behind_s5, m_rank, fX11_behind_s10, h0, if_pos (show nI 0 ≤ 0 by decide), fX11_behind_s45, e35]
  rw [m_scan hS pend n (by omega) hp h.2.1.2 hb]
  simp only [fX11_behind_s74]
  have hst : StI (r.1 157) S := by
    have := h.2.1.2
    clear e35 h
    induction pend with
    | nil => exact this
    | cons y p ih => exact ih (fun x hx => hp x (List.mem_cons_of_mem _ hx)) (by simp at hb ⊢; omega) (by simp at hpl; omega) this.2
  match S, hst, hSl with
  | [], _, _ => rw [if_neg (show ¬ (0 : Int32) ≤ nI ([] : List Int32).length - 1 by decide)]; rfl
  | x :: S', hst, hSl =>
    have e : nI (x :: S').length - 1 = nI S'.length := nI_pred S'.length
    have hl' : S'.length + 1 ≤ 120 := hSl
    have ev : r.1 157 S'.length = x := hst.1
    rw [e, if_pos (nI_pos' (by omega))]
    simp only [fX11_behind_s82, inb_nI (show S'.length < 130 by omega) (by decide), nI_clamp (show S'.length < 2 ^ 31 by omega), if_true, ev]
    rfl
/-! what closes -/
theorem rk_41 : rk 41 = 0 := by decide
theorem rk_44 : rk 44 = 0 := by decide
theorem m_close {k o : Nat} {mk : Int32} {r : St} {pend S : List Int32} {D : List Int32} (hn : 200 ≤ n) (hR : R < 12) (hB : T ≤ 120) (hc : bt B T k = 41) (hm : mk = 40 ∨ mk = 77 ∨ mk = 88) (hp : ∀ x, x ∈ pend → 1 ≤ rk x) (h : RS T R B Q r (pend ++ mk :: S) (o + 1) D) (hb : D.length + (pend ++ mk :: S).length ≤ k) : ∃ r1, Rch n k 0 r (k + 1) 0 r1 ∧ RS T R B Q r1 S o (D ++ pend.map (fun x => 20000 + x) ++ (if mk = 40 then [] else [20000 + mk])) := by
  have hk : k < T := bt_in hc (by decide)
  have hrk : rkL (mk :: S) = 0 := by rcases hm with rfl | rfl | rfl <;> (show rk _ = 0; decide)
  have hl : D.length + (pend.length + (S.length + 1)) ≤ k := by rw [List.length_append] at hb; exact hb
  have e0 := m_bemark (n := n) hn hB (show k ≤ T by omega) (by rw [hc]; exact rk_41) hp hrk h (by omega)
  obtain ⟨r2, g0, g1⟩ := m_unw n 1 hR (by decide) (by decide) (mk :: S) (o + 1) (by rw [hrk]; decide) pend n r D (by omega) hp h (by omega)
  have e35 : r2.1 130 35 = nI (S.length + 1) := g1.2.1.1
  have g2 := RS.pop g1
  have e36 : (setI r2 130 35 (nI S.length)).1 130 36 = nI (o + 1) := by rw [sI_k (by decide)]; exact g1.2.2.1
  have g3 : RS T R B Q (setI (setI r2 130 35 (nI S.length)) 130 36 (nI o)) S o (D ++ pend.map (fun x => 20000 + x)) := g2.opens
  have e171 : fX11_behind_s171 n (nI k) mk r = fX11_behind_s196 n (nI k) mk (setI (setI r2 130 35 (nI S.length)) 130 36 (nI o)) := by
    have g0' : fX11_unwinds n 1 r = some ((), r2) := g0
    simp only [fX11_behind_s171, g0', Option.bind_some, fX11_behind_s176, e35, nI_pred, fX11_behind_s186, e36]
  have e88 : fX11_behind n (nI k) r = fX11_behind_s171 n (nI k) mk r := by
    rw [e0]
    have hh : (mk :: S).headD 0 = mk := rfl
    simp only [fX11_behind_s88, hh, hc, if_neg (show ¬ (41 : Int32) = 44 by decide), fX11_behind_s144, if_true, fX11_behind_s150]
    rcases hm with rfl | rfl | rfl
    · rw [if_pos rfl]
    · rw [if_neg (by decide)]; simp only [fX11_behind_s157]; rw [if_pos trivial]
    · rw [if_neg (by decide)]; simp only [fX11_behind_s157]; rw [if_neg (by decide)]; simp only [fX11_behind_s164]; rw [if_pos trivial]
  by_cases z : mk = 40
  · have hbh : fX11_behind n (nI k) r = some (nI (k + 1), setI (setI r2 130 35 (nI S.length)) 130 36 (nI o)) := by
      rw [e88, e171]
      simp only [fX11_behind_s196, if_pos z, fX11_behind_s213, nI_1]
    have := m_itbe (n := n) (B := B) hB hk h.1.1 (show k < k + 1 by omega) (by omega) hbh g3.1.1 g3.1.2.2.1
    rw [if_pos hc] at this
    exact ⟨_, this, by rw [if_pos z, List.append_nil]; exact g3⟩
  · obtain ⟨r3, q0, q1⟩ := m_puts n (20000 + mk) _ S o _ hR g3 (by rw [List.length_append, List.length_map]; omega)
    have hbh : fX11_behind n (nI k) r = some (nI (k + 1), r3) := by
      rw [e88, e171]
      simp only [fX11_behind_s196, if_neg z, fX11_behind_s203, q0, Option.bind_some, fX11_behind_s213, nI_1]
    have := m_itbe (n := n) (B := B) hB hk h.1.1 (show k < k + 1 by omega) (by omega) hbh q1.1.1 q1.1.2.2.1
    rw [if_pos hc] at this
    exact ⟨_, this, by rw [if_neg z]; exact q1⟩
theorem m_comma {k o : Nat} {mk : Int32} {r : St} {pend S : List Int32} {D : List Int32} (hn : 200 ≤ n) (hR : R < 12) (hB : T ≤ 120) (hc : bt B T k = 44) (hm : mk = 109 ∨ mk = 120) (hp : ∀ x, x ∈ pend → 1 ≤ rk x) (h : RS T R B Q r (pend ++ mk :: S) (o + 1) D) (hb : D.length + (pend ++ mk :: S).length ≤ k) : ∃ r1, Rch n k 0 r (k + 1) 1 r1 ∧ RS T R B Q r1 ((if mk = 109 then 77 else 88) :: S) (o + 1) (D ++ pend.map (fun x => 20000 + x)) := by
  have hk : k < T := bt_in hc (by decide)
  have hrk : rkL (mk :: S) = 0 := by rcases hm with rfl | rfl <;> (show rk _ = 0; decide)
  have hl : D.length + (pend.length + (S.length + 1)) ≤ k := by rw [List.length_append] at hb; exact hb
  have e0 := m_bemark (n := n) hn hB (show k ≤ T by omega) (by rw [hc]; exact rk_44) hp hrk h (by omega)
  obtain ⟨r2, g0, g1⟩ := m_unw n 1 hR (by decide) (by decide) (mk :: S) (o + 1) (by rw [hrk]; decide) pend n r D (by omega) hp h (by omega)
  have e35 : r2.1 130 35 = nI (S.length + 1) := g1.2.1.1
  have g0' : fX11_unwinds n 1 r = some ((), r2) := g0
  have hh : (mk :: S).headD 0 = mk := rfl
  have hbh : fX11_behind n (nI k) r = some (nI (k + 1), setI r2 157 S.length (if mk = 109 then 77 else 88)) := by
    rw [e0]
    simp only [fX11_behind_s88, hh, hc, if_true, fX11_behind_s96]
    rcases hm with rfl | rfl
    · rw [if_pos rfl, if_pos rfl]
      simp only [fX11_behind_s110, g0', Option.bind_some, fX11_behind_s115, if_true, e35, nI_pred, fX11_behind_s132, fX11_behind_s139, inb_nI (show S.length < 130 by omega) (by decide), nI_clamp (show S.length < 2 ^ 31 by omega), fX11_behind_s140, nI_1]
    · rw [if_neg (by decide), if_neg (by decide)]
      simp only [fX11_behind_s103, if_true, fX11_behind_s110, g0', Option.bind_some, fX11_behind_s115, if_neg (show ¬ (120 : Int32) = 109 by decide), e35, nI_pred, fX11_behind_s137, fX11_behind_s139, inb_nI (show S.length < 130 by omega) (by decide), nI_clamp (show S.length < 2 ^ 31 by omega), fX11_behind_s140, nI_1]
  have g2 : RS T R B Q (setI r2 157 S.length (if mk = 109 then 77 else 88)) ((if mk = 109 then 77 else 88) :: S) (o + 1) (D ++ pend.map (fun x => 20000 + x)) := g1.top
  have := m_itbe (n := n) (B := B) hB hk h.1.1 (show k < k + 1 by omega) (by omega) hbh g2.1.1 g2.1.2.2.1
  rw [if_neg (by rw [hc]; decide)] at this
  exact ⟨_, this, g2⟩
/-- what doesn't close stops the reading there -/
theorem m_stop {k o : Nat} {r : St} {pend S : List Int32} {D : List Int32} (hn : 200 ≤ n) (hB : T ≤ 120) (hk : k < T) (h0 : rk (bt B T k) = 0) (hp : ∀ x, x ∈ pend → 1 ≤ rk x) (hS : rkL S = 0) (h : RS T R B Q r (pend ++ S) o D) (hb : (pend ++ S).length ≤ 120) (hc : ¬ (bt B T k = 44 ∧ (S.headD 0 = 109 ∨ S.headD 0 = 120))) (hd : ¬ (bt B T k = 41 ∧ (S.headD 0 = 40 ∨ S.headD 0 = 77 ∨ S.headD 0 = 88))) : EndR n T R Q k 0 r k := by
  have e0 := m_bemark (n := n) hn hB (show k ≤ T by omega) h0 hp hS h hb
  refine m_itbef (r1 := r) hB hk h.1.1 (by omega) ?_ h.2.2.2.2.2
  rw [e0]
  have s217 : fX11_behind_s217 n (nI k) r = some (-1 - nI k, r) := rfl
  have s144 : fX11_behind_s144 n (nI k) (bt B T k) (S.headD 0) r = some (-1 - nI k, r) := by
    simp only [fX11_behind_s144]
    by_cases z : bt B T k = 41
    · rw [if_pos z]
      simp only [fX11_behind_s150, fX11_behind_s157, fX11_behind_s164]
      rw [if_neg (fun w => hd ⟨z, Or.inl w⟩), if_neg (fun w => hd ⟨z, Or.inr (Or.inl w)⟩), if_neg (fun w => hd ⟨z, Or.inr (Or.inr w)⟩)]
      exact s217
    · rw [if_neg z]; exact s217
  simp only [fX11_behind_s88]
  by_cases z : bt B T k = 44
  · rw [if_pos z]
    simp only [fX11_behind_s96, fX11_behind_s103]
    rw [if_neg (fun w => hc ⟨z, Or.inl w⟩), if_neg (fun w => hc ⟨z, Or.inr w⟩)]
    exact s144
  · rw [if_neg z]; exact s144
end
