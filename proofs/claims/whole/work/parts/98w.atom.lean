/-! ===== rule: what a reader of the class does, and the reference beside it ===== -/
def RefOK (n T R : Nat) (B Q : Nat → Int32) (o k k' : Nat) (M : List Int32) (hc : List Int32 → Prop) (pc : Int32 → Prop) : Prop := ∀ S D r, RS T R B Q r S o D → D.length + S.length ≤ k → hc S → ∃ pend D' r1, Rch n k 1 r k' 0 r1 ∧ RS T R B Q r1 (pend ++ S) o (D ++ D') ∧ (∀ x, x ∈ pend → pc x) ∧ D' ++ pend.map (fun x => 20000 + x) = M
def RefNo (n T R : Nat) (B Q : Nat → Int32) (o k p : Nat) (hc : List Int32 → Prop) : Prop := ∀ S D r, RS T R B Q r S o D → D.length + S.length ≤ k → hc S → EndR n T R Q k 1 r p
/-- what is read well: the code, as both have it -/
def Good (n T R : Nat) (B Q : Nat → Int32) (o mb : Nat) (hc : List Int32 → Prop) (pc fc : Int32 → Prop) (k k' : Nat) (L : List Int32) : Prop := k < k' ∧ k' ≤ T ∧ L.length ≤ k' - k ∧ (∀ b, b ≤ mb → dpL b L = some (b + 1)) ∧ fc (bt B T k') ∧ ∃ M, RelL L M ∧ RefOK n T R B Q o k k' M hc pc
def Par (n T R : Nat) (B Q : Nat → Int32) (F : St → Option (Int32 × St)) (o mb : Nat) (hc : List Int32 → Prop) (pc fc : Int32 → Prop) : Prop := ∀ k C c, k ≤ T → C.length ≤ k → CS T B c k C → ∃ fine c1, F c = some (fine, c1) ∧ ((fine = 1 ∧ ∃ k' L, CS T B c1 k' (C ++ L) ∧ Good n T R B Q o mb hc pc fc k k' L) ∨ (fine = 0 ∧ ∃ p, p ≤ 130 ∧ CSf T B c1 p ∧ RefNo n T R B Q o k p hc))
section
variable {T R n : Nat} {B Q : Nat → Int32}
theorem RS.word {r : St} {S : List Int32} {o : Nat} {D : List Int32} {v : Int32} (h : RS T R B Q r S o D) : RS T R B Q (setI r 130 38 v) S o D := by
  obtain ⟨⟨a1, a2, a3, a4⟩, ⟨b1, b2⟩, c1, d1, d2, d3⟩ := h
  exact ⟨⟨by rw [sI_k (by decide)]; exact a1, by rw [sI_k (by decide)]; exact a2, fun j hj => by rw [sI_o (by decide)]; exact a3 j hj, fun i hi => by rw [sI_o (by decide)]; exact a4 i hi⟩, ⟨by rw [sI_k (by decide)]; exact b1, by rw [sI_o (by decide)]; exact b2⟩, by rw [sI_k (by decide)]; exact c1, by rw [sI_k (by decide)]; exact d1, fun i hi => by rw [sI_o (by decide)]; exact d2 i hi, fun i hi => by rw [sI_o (by decide)]; exact d3 i hi⟩
/-- what a word makes the reference do -/
theorem m_opw {k : Nat} {r : St} (h1 : ¬ dgt B T k) (h2 : bt B T k ≠ 40) (hB : T ≤ 120) (hk : k ≤ 120) (hT : r.1 130 32 = nI T) (hb : ∀ j, j < T → r.1 155 j = B j) : fX11_operand n (nI k) r = (fX11_readWord n (nI k) r).bind (fun q => fX11_operand_s100 n q.1 q.2) := by
  have hin : fX11_in n (bt B T k).toInt64 48 57 r = some (b1 (dgt B T k), r) := pinl (lo := 48) (hi := 57) (lo' := 48) (hi' := 57) (by decide) (by decide) n _ r
  simp only [fX11_operand, fX11_operand_s0, m_byteAt n k r hT hb hB (show k ≤ 200 by omega), Option.bind_some, fX11_operand_s5, hin, b1_neg h1, fX11_operand_s17, if_true, fX11_operand_s81, if_neg h2, fX11_operand_s95]
theorem neg2 (k m : Nat) : (-1 : Int32) - nI k - nI m = -1 - nI (k + m) := by
  rw [← nI_add, Int32.sub_eq_add_neg, Int32.sub_eq_add_neg, Int32.sub_eq_add_neg, Int32.neg_add, Int32.sub_eq_add_neg, Int32.add_assoc]
/-- both stop at a byte that doesn't close, or at the tape's end -/
theorem m_noclose {k o : Nat} {mk : Int32} {r : St} {pend S : List Int32} {D : List Int32} (hn : 200 ≤ n) (hB : T ≤ 120) (hk : k ≤ T) (ho : o ≤ 6) (h0 : rk (bt B T k) = 0) (hp : ∀ x, x ∈ pend → 1 ≤ rk x) (hm : rk mk = 0) (h : RS T R B Q r (pend ++ mk :: S) (o + 1) D) (hb : D.length + (pend ++ mk :: S).length ≤ k) (hc : ¬ (bt B T k = 44 ∧ (mk = 109 ∨ mk = 120))) (hd : ¬ (bt B T k = 41 ∧ (mk = 40 ∨ mk = 77 ∨ mk = 88))) : EndR n T R Q k 0 r k := by
  by_cases q : k = T
  · subst q; exact m_itend hB ho h
  · exact m_stop hn hB (by omega) h0 hp (show rkL (mk :: S) = 0 from hm) h (by omega) hc hd
abbrev Nop (c : Int32) : Prop := c ≠ 42 ∧ c ≠ 47 ∧ c ≠ 43 ∧ c ≠ 45
theorem nop_rk {c : Int32} (h : Nop c) : rk c = 0 := by
  unfold rk
  rw [if_neg (fun w => w.elim h.2.2.1 h.2.2.2), if_neg (fun w => w.elim h.1 h.2.1)]
theorem m_opp {k : Nat} {r : St} {S : List Int32} {o : Nat} {D : List Int32} (h2 : bt B T k = 40) (hB : T ≤ 120) (hk : k ≤ 120) (h : RS T R B Q r S o D) : fX11_operand n (nI k) r = (fX11_opensAt n (nI k) 40 r).bind (fun q => some (q.1, q.2)) := by
  have hin : fX11_in n (40 : Int32).toInt64 48 57 r = some (b1 ((48 : Int32) ≤ 40 ∧ (40 : Int32) ≤ 57), r) := pinl (lo := 48) (hi := 57) (lo' := 48) (hi' := 57) (by decide) (by decide) n _ r
  simp only [fX11_operand, fX11_operand_s0, h.by (n := n) hB (show k ≤ 200 by omega), h2, Option.bind_some, fX11_operand_s5, hin, b1_neg (show ¬ ((48 : Int32) ≤ 40 ∧ (40 : Int32) ≤ 57) by decide), fX11_operand_s17, if_true, fX11_operand_s81, fX11_operand_s87, fX11_operand_s94]
section
variable (FS : Int32 → St → Option (Int32 × St)) {o : Nat}
theorem p_num (hn : 200 ≤ n) (hB : BOK B T) (hR : R < 12) (ho : o ≤ 6) {k : Nat} {C : List Int32} {c : St} (hk : k ≤ T) (hC : C.length ≤ k) (hS : CS T B c k C) (d : dgt B T k) : ∃ fine c1, fX9_readAtom n FS (nI o) c = some (fine, c1) ∧ fine = 1 ∧ ∃ k' L, CS T B c1 k' (C ++ L) ∧ Good n T R B Q o (3 * o + 2) (fun _ => True) (fun _ => False) (fun _ => True) k k' L := by
  have hT := hB.1
  obtain ⟨m, hm, hd, he⟩ := num_ex B T k
  have hm1 : 1 ≤ m := by
    by_cases q : m = 0
    · subst q
      rcases he with he | he
      · omega
      · exact absurd d he
    · omega
  have hkm : k + m ≤ T := by have := (dgt_nat hB (hd (m - 1) (by omega))).1; omega
  have hkT : k < T := by omega
  obtain ⟨c1, g0, g1⟩ := c_num (n := n) hB k m C hm hd he (by omega) (by omega) m 0 c (by omega) hS n (by omega)
  have hv := numV_lt hB k m hd
  have hv4 : numV B T k m ≤ 9999 := by
    have : (10 : Nat) ^ m ≤ 10 ^ 4 := Nat.pow_le_pow_right (by decide) hm
    omega
  rw [show nI (numV B T k 0) = 0 from rfl, show nI 0 = 0 from rfl] at g0
  refine ⟨1, c1, ?_, rfl, k + m, [nI (numV B T k m)], g1, by omega, hkm, by simp; omega, fun b hb => ?_, trivial, [nI (numV B T k m)], ⟨Or.inl ⟨_, hv4, rfl, rfl⟩, trivial⟩, fun S D r h hb _ => ?_⟩
  · simp only [fX9_readAtom, fX9_readAtom_s0, c_isDigit n k c hT hS.1 (by omega), Option.bind_some, fX9_readAtom_s4, if_pos d, if_neg (show ¬ (1 : Int32) = 0 by decide), fX9_readAtom_s7, fX9_readNumber, fX9_readNumber_s0, g0, fX9_readAtom_s11]
  · rw [dpL, if_pos (num_ok hv4).1, if_pos (by omega)]; rfl
  · obtain ⟨r1, q1, q2⟩ := m_num (n := n) hB hR k m S o D hm hd he (by omega) (by omega) r h
    have q3 := q2 m 0 (by omega) n (by omega)
    rw [show nI (numV B T k 0) = 0 from rfl, Nat.add_zero] at q3
    have hin : fX11_in n (bt B T k).toInt64 48 57 r = some (b1 (dgt B T k), r) := pinl (lo := 48) (hi := 57) (lo' := 48) (hi' := 57) (by decide) (by decide) n _ r
    have hop : fX11_operand n (nI k) r = some (nI (k + m), r1) := by
      simp only [fX11_operand, fX11_operand_s0, h.by (n := n) hT (show k ≤ 200 by omega), Option.bind_some, fX11_operand_s5, hin, b1_pos d, fX11_operand_s17, if_neg (show ¬ (1 : Int32) = 0 by decide), fX11_operand_s20, q3]
    have hit := m_itop (n := n) (B := B) hT (show k ≤ k + m by omega) (by omega) (by omega) (by omega) hop q1.1.1 q1.1.2.2.1
    have hlast : ¬ bt B T (k + m - 1) = 40 := by
      have := hd (m - 1) (by omega)
      rw [show k + (m - 1) = k + m - 1 by omega] at this
      intro w
      have h1 := this.1
      rw [w] at h1
      exact absurd h1 (by decide)
    rw [if_neg hlast] at hit
    exact ⟨[], [nI (numV B T k m)], r1, hit, q1, fun x hx => absurd hx List.not_mem_nil, by simp⟩
theorem p_par (hn : 200 ≤ n) (hB : BOK B T) (hR : R < 12) (ho : o ≤ 6) (hFS : o < 6 → Par n T R B Q (FS (nI (o + 1))) (o + 1) (3 * (o + 1)) (fun S => rkL S = 0) (fun x => 1 ≤ rk x) Nop) {k : Nat} {C : List Int32} {c : St} (hk : k ≤ T) (hC : C.length ≤ k) (hS : CS T B c k C) (hp : bt B T k = 40) : ∃ fine c1, fX9_readAtom n FS (nI o) c = some (fine, c1) ∧ ((fine = 1 ∧ ∃ k' L, CS T B c1 k' (C ++ L) ∧ Good n T R B Q o (3 * o + 2) (fun _ => True) (fun _ => False) (fun _ => True) k k' L) ∨ (fine = 0 ∧ ∃ p, p ≤ 130 ∧ CSf T B c1 p ∧ RefNo n T R B Q o k p (fun _ => True))) := by
  have hT := hB.1
  have hkT : k < T := bt_in hp (by decide)
  have nd : ¬ dgt B T k := by intro w; have := w.1; rw [hp] at this; exact absurd this (by decide)
  have n10 : ¬ (1 : Int32) = 0 := by decide
  have e0 : fX9_readAtom n FS (nI o) c = fX9_readAtom_s22 n FS (nI o) c := by
    simp only [fX9_readAtom, fX9_readAtom_s0, c_isDigit n k c hT hS.1 (by omega), Option.bind_some, fX9_readAtom_s4, if_neg nd, if_true, fX9_readAtom_s13, c_isNext n k 40 (by decide) c hT hS.1 (by omega), if_pos hp, fX9_readAtom_s19, if_neg n10]
  have z53 : ∀ c' : St, fX9_readAtom_s53 n FS c' = some (0, c') := fun c' => rfl
  by_cases ho6 : o < 6
  · have hop : fX9_openOne n (nI o) c = some (1, setI c 15 3 (nI (k + 1))) := by
      simp only [fX9_openOne, fX9_openOne_s0, if_neg (show ¬ (6 : Int32) ≤ nI o from nI_ge (b := 6) (by omega) (by decide)), fX9_openOne_s6, c_take n k 40 (by decide) c hT hS.1 (by omega), if_pos hp, Option.bind_some, fX9_openOne_s12, if_neg n10, fX9_openOne_s15]
      rfl
    obtain ⟨f1, c1, g0, g1⟩ := hFS ho6 (k + 1) C (setI c 15 3 (nI (k + 1))) (by omega) (by omega) hS.at
    have e1 : fX9_readAtom n FS (nI o) c = fX9_readAtom_s37 n FS f1 c1 := by
      rw [e0]
      simp only [fX9_readAtom_s22, hop, Option.bind_some, fX9_readAtom_s27, if_neg n10, fX9_readAtom_s30, nI_1, g0]
    -- the reference opens
    have opn : ∀ S D r, RS T R B Q r S o D → D.length + S.length ≤ k → ∃ r1, Rch n k 1 r (k + 1) 1 r1 ∧ RS T R B Q r1 (40 :: S) (o + 1) D := fun S D r h hb => by
      obtain ⟨r1, q0, q1⟩ := m_opens (n := n) (k := k) (mk := 40) ho6 (show S.length < 130 by omega) h
      have hop' : fX11_operand n (nI k) r = some (nI (k + 1), r1) := by rw [m_opp hp hT (by omega) h, q0]; rfl
      have hit := m_itop (n := n) (B := B) hT (show k ≤ k + 1 by omega) (by omega) (by omega) (by omega) hop' q1.1.1 q1.1.2.2.1
      rw [Nat.add_sub_cancel, if_pos hp] at hit
      exact ⟨r1, hit, q1⟩
    rcases g1 with ⟨rfl, k1, L, hCS, hk1, hk1T, hL, hdp, hfc, M, hRel, hRef⟩ | ⟨rfl, p, hp130, hCf, hNo⟩
    · have hlen := hRel.len
      have hCL : (C ++ L).length ≤ k1 := by rw [List.length_append]; omega
      by_cases q : bt B T k1 = 41
      · have hk1T' : k1 < T := bt_in q (by decide)
        refine ⟨1, setI c1 15 3 (nI (k1 + 1)), ?_, Or.inl ⟨rfl, k1 + 1, L, hCS.at, by omega, by omega, by omega, fun b hb => hdp b (by omega), trivial, M, hRel, fun S D r h hb _ => ?_⟩⟩
        · rw [e1]
          simp only [fX9_readAtom_s37, if_neg n10, fX9_readAtom_s40, c_take n k1 41 (by decide) c1 hT hCS.1 (by omega), if_pos q, Option.bind_some, fX9_readAtom_s46, fX9_readAtom_s49, fX9_readAtom_s54]
          rfl
        · obtain ⟨r1, a0, a1⟩ := opn S D r h hb
          obtain ⟨pend, D', r2, b0, b1, b2, b3⟩ := hRef (40 :: S) D r1 a1 (by rw [List.length_cons]; omega) (show rk 40 = 0 by decide)
          have hML : D'.length + pend.length = M.length := by rw [← b3, List.length_append, List.length_map]
          obtain ⟨r3, d0, d1⟩ := m_close (n := n) hn hR hT q (Or.inl rfl) b2 b1 (by rw [List.length_append, List.length_append, List.length_cons]; omega)
          rw [if_pos rfl, List.append_nil, List.append_assoc, b3] at d1
          exact ⟨[], M, r3, (a0.tr b0).tr d0, d1, fun x hx => absurd hx List.not_mem_nil, by simp⟩
      · refine ⟨0, setI c1 15 3 (nI k1), ?_, Or.inr ⟨rfl, k1, by omega, (hCS.f (by omega)).at, fun S D r h hb _ => ?_⟩⟩
        · rw [e1]
          simp only [fX9_readAtom_s37, if_neg n10, fX9_readAtom_s40, c_take n k1 41 (by decide) c1 hT hCS.1 (by omega), if_neg q, Option.bind_some, fX9_readAtom_s46, if_true]
          exact z53 _
        · obtain ⟨r1, a0, a1⟩ := opn S D r h hb
          obtain ⟨pend, D', r2, b0, b1, b2, b3⟩ := hRef (40 :: S) D r1 a1 (by rw [List.length_cons]; omega) (show rk 40 = 0 by decide)
          have hML : D'.length + pend.length = M.length := by rw [← b3, List.length_append, List.length_map]
          exact (a0.tr b0).en (m_noclose hn hT hk1T ho (nop_rk hfc) b2 (by decide) b1 (by rw [List.length_append, List.length_append, List.length_cons]; omega) (fun w => w.2.elim (by decide) (by decide)) (fun w => q w.1))
    · refine ⟨0, c1, ?_, Or.inr ⟨rfl, p, hp130, hCf, fun S D r h hb _ => ?_⟩⟩
      · rw [e1]
        simp only [fX9_readAtom_s37, if_true]
        exact z53 _
      · obtain ⟨r1, a0, a1⟩ := opn S D r h hb
        exact a0.en (hNo (40 :: S) D r1 a1 (by rw [List.length_cons]; omega) (show rk 40 = 0 by decide))
  · have o6 : o = 6 := by omega
    subst o6
    have hop : fX9_openOne n (nI 6) c = some (0, c) := by
      simp only [fX9_openOne, fX9_openOne_s0, if_pos (show (6 : Int32) ≤ nI 6 by decide), fX9_openOne_s19]
      rfl
    refine ⟨0, c, ?_, Or.inr ⟨rfl, k, by omega, hS.f (by omega), fun S D r h hb _ => ?_⟩⟩
    · rw [e0]
      simp only [fX9_readAtom_s22, hop, Option.bind_some, fX9_readAtom_s27, if_true]
      exact z53 _
    · refine m_itopf (r1 := r) hk (by omega) ?_ h.2.2.2.2.2
      rw [m_opp hp hT (by omega) h, m_opensf h]; rfl
end
end
