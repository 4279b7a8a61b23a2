/-! ===== rule: words as atoms ===== -/
section
variable {T R n : Nat} {B Q : Nat → Int32} (FS : Int32 → St → Option (Int32 × St)) {o : Nat}
theorem wd_last {k w : Nat} (hw : w < 9) (h : PWd (fun i => bt B T (k + i)) w (wl w)) : k + wl w ≤ T ∧ bt B T (k + wl w - 1) ≠ 40 := by
  obtain ⟨-, -, -, w3, w5⟩ := wf2 w hw
  have e : bt B T (k + (wl w - 1)) = lt w (wl w - 1) := h.2 (wl w - 1) (by omega)
  obtain ⟨-, -, -, e4, e5, -⟩ := wf1 w hw (wl w - 1) (by omega) (by omega)
  have := bt_in e e4
  refine ⟨by omega, ?_⟩
  rw [show k + wl w - 1 = k + (wl w - 1) by omega, e]
  exact e5
theorem m_opword {k w : Nat} {r : St} {S : List Int32} {D : List Int32} (hn : 200 ≤ n) (hT : T ≤ 120) (hk : k ≤ 120) (hw : w < 9) (hP : PWd (fun i => bt B T (k + i)) w (wl w)) (nd : ¬ dgt B T k) (np : bt B T k ≠ 40) (h : RS T R B Q r S o D) : fX11_operand n (nI k) r = fX11_operand_s107 n (nI (k + wl w)) (setI r 130 38 (nI w)) := by
  have hwl := (wf2 w hw).2.2.2
  rw [m_opw nd np hT hk h.1.1 h.1.2.2.1]
  rcases m_word (n := n) k r hn hT hk h.1.2.2.2 h.1.1 h.1.2.2.1 with ⟨v, hv, hPv, e⟩ | ⟨h1, -⟩
  · have : v = w := PWd.uniq hv hw hPv hP
    subst this
    rw [e]
    simp only [Option.bind_some, fX11_operand_s100, if_pos (show (0 : Int32) ≤ nI (k + wl v) from nI_pos' (by omega))]
  · exact absurd hP (h1 w hw)
theorem p_fld (hn : 200 ≤ n) (hB : BOK B T) (hR : R < 12) (ho : o ≤ 6) {k w : Nat} {C : List Int32} {c : St} (hk : k ≤ T) (hC : C.length ≤ k) (hS : CS T B c k C) (nd : ¬ dgt B T k) (np : bt B T k ≠ 40) (hw : w < 7) (hP : PWd (fun i => bt B T (k + i)) w (wl w)) : ∃ c1, fX9_readAtom_s66 n FS (nI o) (nI w) (setI c 15 3 (nI (k + wl w))) = some (1, c1) ∧ ∃ k' L, CS T B c1 k' (C ++ L) ∧ Good n T R B Q o (3 * o + 2) (fun _ => True) (fun _ => False) (fun _ => True) k k' L := by
  have hT := hB.1
  have hwl := (wf2 w (by omega)).2.2.2
  obtain ⟨hkw, hl40⟩ := wd_last (by omega) hP
  have fo := fld_ok w hw
  obtain ⟨c1, g0, g1⟩ := c_emit n (k + wl w) (-1 - nI w) (setI c 15 3 (nI (k + wl w))) C hS.at (by omega)
  refine ⟨c1, ?_, k + wl w, [-1 - nI w], g1, by omega, hkw, by simp; omega, fun b hb => ?_, trivial, [nI (10000 + w)], ⟨Or.inr (Or.inl ⟨w, by omega, rfl, rfl⟩), trivial⟩, fun S D r h hb _ => ?_⟩
  · simp only [fX9_readAtom_s66, if_neg (show ¬ (7 : Int32) ≤ nI w from nI_ge (b := 7) hw (by decide)), fX9_readAtom_s72, g0, Option.bind_some, fX9_readAtom_s79]
  · rw [dpL, if_pos fo.1, if_pos (by omega)]; rfl
  · obtain ⟨r1, q0, q1⟩ := m_puts n (nI (10000 + w)) (setI r 130 38 (nI w)) S o D hR h.word (by omega)
    have e38 : (setI r 130 38 (nI w)).1 130 38 = nI w := sI_at
    have ea : (10000 : Int32) + nI w = nI (10000 + w) := nI_add 10000 w
    have hop : fX11_operand n (nI k) r = some (nI (k + wl w), r1) := by
      rw [m_opword hn hT (by omega) (by omega) hP nd np h]
      simp only [fX11_operand_s107, e38, if_neg (show ¬ (7 : Int32) ≤ nI w from nI_ge (b := 7) hw (by decide)), fX11_operand_s116, ea, q0, Option.bind_some, fX11_operand_s128]
    have hit := m_itop (n := n) (B := B) hT (show k ≤ k + wl w by omega) (by omega) (by omega) (by omega) hop q1.1.1 q1.1.2.2.1
    rw [if_neg hl40] at hit
    exact ⟨[], [nI (10000 + w)], r1, hit, q1, fun x hx => absurd hx List.not_mem_nil, by simp⟩
/-- the marks and deeds of min and max -/
def MK (w : Nat) (mk mk2 deed : Int32) : Prop := (w = 7 ∧ mk = 109 ∧ mk2 = 77 ∧ deed = -12) ∨ (w = 8 ∧ mk = 120 ∧ mk2 = 88 ∧ deed = -13)
theorem c_131 {w p : Nat} {mk mk2 deed : Int32} (hm : MK w mk mk2 deed) (fine : Int32) (c : St) (hz : fine = 0 ∨ fine = 1) (hC : CSf T B c p) : ∃ c1, fX9_readAtom_s132 n FS (nI w) fine c = some (fine, c1) ∧ CSf T B c1 p := by
  obtain ⟨c1, g0, g1⟩ := c_emitf n p deed c hC
  refine ⟨c1, ?_, g1⟩
  have zf : zb fine = true := by rcases hz with rfl | rfl <;> rfl
  rcases hm with ⟨rfl, -, -, rfl⟩ | ⟨rfl, -, -, rfl⟩
  · simp only [fX9_readAtom_s132, if_pos (show nI 7 = 7 by decide), fX9_readAtom_s140, fX9_readAtom_s147, g0, Option.bind_some, fX9_readAtom_s150, zf, if_true]
  · simp only [fX9_readAtom_s132, if_neg (show ¬ nI 8 = 7 by decide), fX9_readAtom_s145, fX9_readAtom_s147, g0, Option.bind_some, fX9_readAtom_s150, zf, if_true]
theorem c_132 {w k : Nat} {mk mk2 deed : Int32} {C : List Int32} (hm : MK w mk mk2 deed) (c : St) (hC : CS T B c k C) (hl : C.length < 120) : ∃ c1, fX9_readAtom_s132 n FS (nI w) 1 c = some (1, c1) ∧ CS T B c1 k (C ++ [deed]) := by
  obtain ⟨c1, g0, g1⟩ := c_emit n k deed c C hC hl
  refine ⟨c1, ?_, g1⟩
  have zf : zb 1 = true := rfl
  rcases hm with ⟨rfl, -, -, rfl⟩ | ⟨rfl, -, -, rfl⟩
  · simp only [fX9_readAtom_s132, if_pos (show nI 7 = 7 by decide), fX9_readAtom_s140, fX9_readAtom_s147, g0, Option.bind_some, fX9_readAtom_s150, zf, if_true]
  · simp only [fX9_readAtom_s132, if_neg (show ¬ nI 8 = 7 by decide), fX9_readAtom_s145, fX9_readAtom_s147, g0, Option.bind_some, fX9_readAtom_s150, zf, if_true]
theorem p_two (hn : 200 ≤ n) (hB : BOK B T) (hR : R < 12) (ho : o ≤ 6) (hFS : o < 6 → Par n T R B Q (FS (nI (o + 1))) (o + 1) (3 * (o + 1)) (fun S => rkL S = 0) (fun x => 1 ≤ rk x) Nop) {k w : Nat} {mk mk2 deed : Int32} {C : List Int32} {c : St} (hk : k ≤ T) (hC : C.length ≤ k) (hS : CS T B c k C) (nd : ¬ dgt B T k) (np : bt B T k ≠ 40) (hm : MK w mk mk2 deed) (hP : PWd (fun i => bt B T (k + i)) w (wl w)) : ∃ fine c1, fX9_readAtom_s66 n FS (nI o) (nI w) (setI c 15 3 (nI (k + wl w))) = some (fine, c1) ∧ ((fine = 1 ∧ ∃ k' L, CS T B c1 k' (C ++ L) ∧ Good n T R B Q o (3 * o + 2) (fun _ => True) (fun _ => False) (fun _ => True) k k' L) ∨ (fine = 0 ∧ ∃ p, p ≤ 130 ∧ CSf T B c1 p ∧ RefNo n T R B Q o k p (fun _ => True))) := by
  have hT := hB.1
  have hw9 : w < 9 := by rcases hm with ⟨h, -⟩ | ⟨h, -⟩ <;> omega
  have hw7 : 7 ≤ w := by rcases hm with ⟨h, -⟩ | ⟨h, -⟩ <;> omega
  have hwl := (wf2 w hw9).2.2.2
  obtain ⟨hkw, hl40⟩ := wd_last hw9 hP
  have n10 : ¬ (1 : Int32) = 0 := by decide
  have hmk : (mk = 109 ∨ mk = 120) ∧ (if mk = 109 then (77 : Int32) else 88) = mk2 ∧ (mk2 = 40 ∨ mk2 = 77 ∨ mk2 = 88) ∧ mk2 ≠ 40 ∧ rk mk = 0 ∧ rk mk2 = 0 ∧ stepR deed (20000 + mk2) ∧ ¬ (-8 : Int32) < deed := by
    rcases hm with ⟨-, rfl, rfl, rfl⟩ | ⟨-, rfl, rfl, rfl⟩
    · exact ⟨Or.inl rfl, rfl, Or.inr (Or.inl rfl), by decide, by decide, by decide, Or.inr (Or.inr (Or.inr (Or.inr (Or.inr (Or.inr (Or.inl ⟨rfl, by decide⟩)))))), by decide⟩
    · exact ⟨Or.inr rfl, rfl, Or.inr (Or.inr rfl), by decide, by decide, by decide, Or.inr (Or.inr (Or.inr (Or.inr (Or.inr (Or.inr (Or.inr ⟨rfl, by decide⟩)))))), by decide⟩
  obtain ⟨hmk1, hmk2, hmk3, hmk4, hmk5, hmk6, hstep, hdeed⟩ := hmk
  have S1 : CS T B (setI c 15 3 (nI (k + wl w))) (k + wl w) C := hS.at
  have e0 : fX9_readAtom_s66 n FS (nI o) (nI w) (setI c 15 3 (nI (k + wl w))) = fX9_readAtom_s81 n FS (nI o) (nI w) (setI c 15 3 (nI (k + wl w))) := by
    simp only [fX9_readAtom_s66, if_pos (show (7 : Int32) ≤ nI w from nI_le (a := 7) hw7 (by omega))]
  have z131 : ∀ c' : St, fX9_readAtom_s131 n FS (nI w) c' = fX9_readAtom_s132 n FS (nI w) 0 c' := fun c' => rfl
  -- the reference at the word
  have refw : ∀ S D r, RS T R B Q r S o D → fX11_operand n (nI k) r = if bt B T (k + wl w) = 40 then (fX11_opensAt n (nI (k + wl w)) mk (setI r 130 38 (nI w))).bind (fun q => some (q.1, q.2)) else some (-1 - nI (k + wl w), setI r 130 38 (nI w)) := fun S D r h => by
    rw [m_opword hn hT (by omega) hw9 hP nd np h]
    have e38 : (setI r 130 38 (nI w)).1 130 38 = nI w := sI_at
    have hw' : RS T R B Q (setI r 130 38 (nI w)) S o D := h.word
    simp only [fX11_operand_s107, e38, if_pos (show (7 : Int32) ≤ nI w from nI_le (a := 7) hw7 (by omega)), fX11_operand_s130, hw'.by (n := n) hT (show k + wl w ≤ 200 by omega), Option.bind_some, fX11_operand_s135]
    by_cases q : bt B T (k + wl w) = 40
    · rw [if_pos q, if_pos q]
      simp only [fX11_operand_s140, e38]
      rcases hm with ⟨rfl, rfl, -⟩ | ⟨rfl, rfl, -⟩
      · rw [if_pos (show nI 7 = 7 by decide)]; rfl
      · rw [if_neg (show ¬ nI 8 = 7 by decide)]; rfl
    · rw [if_neg q, if_neg q]; rfl
  have stop1 : (¬ o < 6 ∨ bt B T (k + wl w) ≠ 40) → RefNo n T R B Q o k (k + wl w) (fun _ => True) := fun hh S D r h hb _ => by
    refine m_itopf (r1 := setI r 130 38 (nI w)) hk (by omega) ?_ h.word.2.2.2.2.2
    rw [refw S D r h]
    by_cases q : bt B T (k + wl w) = 40
    · have o6 : o = 6 := by rcases hh with hh | hh; · omega
                            · exact absurd q hh
      subst o6
      rw [if_pos q, m_opensf h.word]; rfl
    · rw [if_neg q]
  by_cases ho6 : o < 6
  · by_cases q : bt B T (k + wl w) = 40
    · have hkwT : k + wl w < T := bt_in q (by decide)
      have hop : fX9_openOne n (nI o) (setI c 15 3 (nI (k + wl w))) = some (1, setI (setI c 15 3 (nI (k + wl w))) 15 3 (nI (k + wl w + 1))) := by
        simp only [fX9_openOne, fX9_openOne_s0, if_neg (show ¬ (6 : Int32) ≤ nI o from nI_ge (b := 6) (by omega) (by decide)), fX9_openOne_s6, c_take n (k + wl w) 40 (by decide) _ hT S1.1 (by omega), if_pos q, Option.bind_some, fX9_openOne_s12, if_neg n10, fX9_openOne_s15]
        rfl
      obtain ⟨f1, c1, g0, g1⟩ := hFS ho6 (k + wl w + 1) C (setI (setI c 15 3 (nI (k + wl w))) 15 3 (nI (k + wl w + 1))) (by omega) (by omega) S1.at
      have e1 : fX9_readAtom_s66 n FS (nI o) (nI w) (setI c 15 3 (nI (k + wl w))) = fX9_readAtom_s96 n FS (nI o) (nI w) f1 c1 := by
        rw [e0]
        simp only [fX9_readAtom_s81, hop, Option.bind_some, fX9_readAtom_s86, if_neg n10, fX9_readAtom_s89, nI_1, g0]
      have opn : ∀ S D r, RS T R B Q r S o D → D.length + S.length ≤ k → ∃ r1, Rch n k 1 r (k + wl w + 1) 1 r1 ∧ RS T R B Q r1 (mk :: S) (o + 1) D := fun S D r h hb => by
        obtain ⟨r1, q0, q1⟩ := m_opens (n := n) (k := k + wl w) (mk := mk) ho6 (show S.length < 130 by omega) (h.word (v := nI w))
        have hop' : fX11_operand n (nI k) r = some (nI (k + wl w + 1), r1) := by rw [refw S D r h, if_pos q, q0]; rfl
        have hit := m_itop (n := n) (B := B) hT (show k ≤ k + wl w + 1 by omega) (by omega) (by omega) (by omega) hop' q1.1.1 q1.1.2.2.1
        rw [Nat.add_sub_cancel, if_pos q] at hit
        exact ⟨r1, hit, q1⟩
      rcases g1 with ⟨rfl, k1, L, hCS, hk1, hk1T, hL, hdp, hfc, M, hRel, hRef⟩ | ⟨rfl, p, hp130, hCf, hNo⟩
      · have hlen := hRel.len
        have hCL : (C ++ L).length ≤ k1 := by rw [List.length_append]; omega
        by_cases q2 : bt B T k1 = 44
        · have hk1T' : k1 < T := bt_in q2 (by decide)
          have S2 : CS T B (setI c1 15 3 (nI (k1 + 1))) (k1 + 1) (C ++ L) := hCS.at
          obtain ⟨f2, c2, g2, g3⟩ := hFS ho6 (k1 + 1) (C ++ L) (setI c1 15 3 (nI (k1 + 1))) (by omega) (by omega) S2
          have e2 : fX9_readAtom_s66 n FS (nI o) (nI w) (setI c 15 3 (nI (k + wl w))) = fX9_readAtom_s115 n FS (nI w) f2 c2 := by
            rw [e1]
            simp only [fX9_readAtom_s96, if_neg n10, fX9_readAtom_s99, c_take n k1 44 (by decide) c1 hT hCS.1 (by omega), if_pos q2, Option.bind_some, fX9_readAtom_s105, fX9_readAtom_s108, nI_1, g2]
          -- the reference behind the comma
          have cm : ∀ S D r, RS T R B Q r S o D → D.length + S.length ≤ k → ∃ r1, Rch n k 1 r (k1 + 1) 1 r1 ∧ RS T R B Q r1 (mk2 :: S) (o + 1) (D ++ M) := fun S D r h hb => by
            obtain ⟨r1, a0, a1⟩ := opn S D r h hb
            obtain ⟨pend, D', r2, b0, b1, b2, b3⟩ := hRef (mk :: S) D r1 a1 (by rw [List.length_cons]; omega) hmk5
            have hML : D'.length + pend.length = M.length := by rw [← b3, List.length_append, List.length_map]
            obtain ⟨r3, d0, d1⟩ := m_comma (n := n) hn hR hT q2 hmk1 b2 b1 (by rw [List.length_append, List.length_append, List.length_cons]; omega)
            rw [hmk2, List.append_assoc, b3] at d1
            exact ⟨r3, (a0.tr b0).tr d0, d1⟩
          rcases g3 with ⟨rfl, k2, L2, hCS2, hk2, hk2T, hL2, hdp2, hfc2, M2, hRel2, hRef2⟩ | ⟨rfl, p, hp130, hCf, hNo⟩
          · have hlen2 := hRel2.len
            have hCL2 : (C ++ L ++ L2).length ≤ k2 := by rw [List.length_append]; omega
            by_cases q3 : bt B T k2 = 41
            · have hk2T' : k2 < T := bt_in q3 (by decide)
              obtain ⟨c3, t0, t1⟩ := c_132 (n := n) FS hm (setI c2 15 3 (nI (k2 + 1))) hCS2.at (by omega)
              refine ⟨1, c3, ?_, Or.inl ⟨rfl, k2 + 1, L ++ L2 ++ [deed], by rw [← List.append_assoc, ← List.append_assoc]; exact t1, by omega, by omega, by rw [List.length_append, List.length_append, List.length_singleton]; omega, fun b hb => ?_, trivial, M ++ M2 ++ [20000 + mk2], (hRel.app hRel2).app ⟨hstep, trivial⟩, fun S D r h hb _ => ?_⟩⟩
              · rw [e2]
                simp only [fX9_readAtom_s115, if_neg n10, fX9_readAtom_s118, c_take n k2 41 (by decide) c2 hT hCS2.1 (by omega), if_pos q3, Option.bind_some, fX9_readAtom_s124, fX9_readAtom_s127, t0]
              · rw [dpL_app, dpL_app, hdp b (by omega)]
                simp only [Option.bind_some]
                rw [hdp2 (b + 1) (by omega)]
                simp only [Option.bind_some]
                rw [dpL, if_neg hdeed, if_pos (by omega)]; rfl
              · obtain ⟨r1, a0, a1⟩ := cm S D r h hb
                obtain ⟨pend, D', r2, b0, b1, b2, b3⟩ := hRef2 (mk2 :: S) (D ++ M) r1 a1 (by rw [List.length_append, List.length_cons]; omega) hmk6
                have hML : D'.length + pend.length = M2.length := by rw [← b3, List.length_append, List.length_map]
                obtain ⟨r3, d0, d1⟩ := m_close (n := n) hn hR hT q3 hmk3 b2 b1 (by rw [List.length_append, List.length_append, List.length_append, List.length_cons]; omega)
                rw [if_neg hmk4, List.append_assoc (D ++ M), b3, List.append_assoc D, List.append_assoc D] at d1
                exact ⟨[], M ++ M2 ++ [20000 + mk2], r3, (a0.tr b0).tr d0, d1, fun x hx => absurd hx List.not_mem_nil, by simp⟩
            · obtain ⟨c3, t0, t1⟩ := c_131 (n := n) FS hm 0 (setI c2 15 3 (nI k2)) (Or.inl rfl) (hCS2.f (by omega)).at
              refine ⟨0, c3, ?_, Or.inr ⟨rfl, k2, by omega, t1, fun S D r h hb _ => ?_⟩⟩
              · rw [e2]
                simp only [fX9_readAtom_s115, if_neg n10, fX9_readAtom_s118, c_take n k2 41 (by decide) c2 hT hCS2.1 (by omega), if_neg q3, Option.bind_some, fX9_readAtom_s124, if_true, z131, t0]
              · obtain ⟨r1, a0, a1⟩ := cm S D r h hb
                obtain ⟨pend, D', r2, b0, b1, b2, b3⟩ := hRef2 (mk2 :: S) (D ++ M) r1 a1 (by rw [List.length_append, List.length_cons]; omega) hmk6
                have hML : D'.length + pend.length = M2.length := by rw [← b3, List.length_append, List.length_map]
                refine (a0.tr b0).en (m_noclose hn hT hk2T ho (nop_rk hfc2) b2 hmk6 b1 (by rw [List.length_append, List.length_append, List.length_append, List.length_cons]; omega) (fun w => ?_) (fun w => q3 w.1))
                rcases hm with ⟨-, -, rfl, -⟩ | ⟨-, -, rfl, -⟩ <;> exact w.2.elim (by decide) (by decide)
          · obtain ⟨c3, t0, t1⟩ := c_131 (n := n) FS hm 0 c2 (Or.inl rfl) hCf
            refine ⟨0, c3, ?_, Or.inr ⟨rfl, p, hp130, t1, fun S D r h hb _ => ?_⟩⟩
            · rw [e2]
              simp only [fX9_readAtom_s115, if_true, z131, t0]
            · obtain ⟨r1, a0, a1⟩ := cm S D r h hb
              exact a0.en (hNo (mk2 :: S) (D ++ M) r1 a1 (by rw [List.length_append, List.length_cons]; omega) hmk6)
        · obtain ⟨c3, t0, t1⟩ := c_131 (n := n) FS hm 0 (setI c1 15 3 (nI k1)) (Or.inl rfl) (hCS.f (by omega)).at
          refine ⟨0, c3, ?_, Or.inr ⟨rfl, k1, by omega, t1, fun S D r h hb _ => ?_⟩⟩
          · rw [e1]
            simp only [fX9_readAtom_s96, if_neg n10, fX9_readAtom_s99, c_take n k1 44 (by decide) c1 hT hCS.1 (by omega), if_neg q2, Option.bind_some, fX9_readAtom_s105, if_true, z131, t0]
          · obtain ⟨r1, a0, a1⟩ := opn S D r h hb
            obtain ⟨pend, D', r2, b0, b1, b2, b3⟩ := hRef (mk :: S) D r1 a1 (by rw [List.length_cons]; omega) hmk5
            have hML : D'.length + pend.length = M.length := by rw [← b3, List.length_append, List.length_map]
            refine (a0.tr b0).en (m_noclose hn hT hk1T ho (nop_rk hfc) b2 hmk5 b1 (by rw [List.length_append, List.length_append, List.length_cons]; omega) (fun w => q2 w.1) (fun w => ?_))
            rcases hmk1 with rfl | rfl <;> exact w.2.elim (by decide) (fun x => x.elim (by decide) (by decide))
      · obtain ⟨c3, t0, t1⟩ := c_131 (n := n) FS hm 0 c1 (Or.inl rfl) hCf
        refine ⟨0, c3, ?_, Or.inr ⟨rfl, p, hp130, t1, fun S D r h hb _ => ?_⟩⟩
        · rw [e1]
          simp only [fX9_readAtom_s96, if_true, z131, t0]
        · obtain ⟨r1, a0, a1⟩ := opn S D r h hb
          exact a0.en (hNo (mk :: S) D r1 a1 (by rw [List.length_cons]; omega) hmk5)
    · have hop : fX9_openOne n (nI o) (setI c 15 3 (nI (k + wl w))) = some (0, setI (setI c 15 3 (nI (k + wl w))) 15 3 (nI (k + wl w))) := by
        simp only [fX9_openOne, fX9_openOne_s0, if_neg (show ¬ (6 : Int32) ≤ nI o from nI_ge (b := 6) (by omega) (by decide)), fX9_openOne_s6, c_take n (k + wl w) 40 (by decide) _ hT S1.1 (by omega), if_neg q, Option.bind_some, fX9_openOne_s12, if_true, fX9_openOne_s19]
        rfl
      obtain ⟨c3, t0, t1⟩ := c_131 (n := n) FS hm 0 (setI (setI c 15 3 (nI (k + wl w))) 15 3 (nI (k + wl w))) (Or.inl rfl) (S1.f (by omega)).at
      refine ⟨0, c3, ?_, Or.inr ⟨rfl, k + wl w, by omega, t1, stop1 (Or.inr q)⟩⟩
      rw [e0]
      simp only [fX9_readAtom_s81, hop, Option.bind_some, fX9_readAtom_s86, if_true, z131, t0]
  · have o6 : o = 6 := by omega
    have hop : fX9_openOne n (nI o) (setI c 15 3 (nI (k + wl w))) = some (0, setI c 15 3 (nI (k + wl w))) := by
      rw [o6]
      simp only [fX9_openOne, fX9_openOne_s0, if_pos (show (6 : Int32) ≤ nI 6 by decide), fX9_openOne_s19]
      rfl
    obtain ⟨c3, t0, t1⟩ := c_131 (n := n) FS hm 0 (setI c 15 3 (nI (k + wl w))) (Or.inl rfl) (S1.f (by omega))
    refine ⟨0, c3, ?_, Or.inr ⟨rfl, k + wl w, by omega, t1, stop1 (Or.inl ho6)⟩⟩
    rw [e0]
    simp only [fX9_readAtom_s81, hop, Option.bind_some, fX9_readAtom_s86, if_true, z131, t0]
theorem m_100g (v : Int32) (hv : ¬ (0 : Int32) ≤ v) (r : St) : (some (v, r)).bind (fun q => fX11_operand_s100 n q.1 q.2) = some (v, r) := by
  simp only [Option.bind_some, fX11_operand_s100, if_neg hv, fX11_operand_s105]
theorem p_atom (hn : 200 ≤ n) (hB : BOK B T) (hR : R < 12) (ho : o ≤ 6) (hFS : o < 6 → Par n T R B Q (FS (nI (o + 1))) (o + 1) (3 * (o + 1)) (fun S => rkL S = 0) (fun x => 1 ≤ rk x) Nop) : Par n T R B Q (fX9_readAtom n FS (nI o)) o (3 * o + 2) (fun _ => True) (fun _ => False) (fun _ => True) := by
  intro k C c hk hC hS
  have hT := hB.1
  have n10 : ¬ (1 : Int32) = 0 := by decide
  by_cases d : dgt B T k
  · obtain ⟨f, c1, h1, h2, h3⟩ := p_num FS hn hB hR ho hk hC hS d
    exact ⟨f, c1, h1, Or.inl ⟨h2, h3⟩⟩
  · by_cases p : bt B T k = 40
    · exact p_par FS hn hB hR ho hFS hk hC hS p
    · have e0 : fX9_readAtom n FS (nI o) c = (fX9_readWord n c).bind (fun q => fX9_readAtom_s59 n FS (nI o) q.1 q.2) := by
        simp only [fX9_readAtom, fX9_readAtom_s0, c_isDigit n k c hT hS.1 (by omega), Option.bind_some, fX9_readAtom_s4, if_neg d, if_true, fX9_readAtom_s13, c_isNext n k 40 (by decide) c hT hS.1 (by omega), if_neg p, fX9_readAtom_s19, fX9_readAtom_s55]
      rcases c_word (n := n) k c hn hT hS.1 (by omega) with ⟨w, hw, hP, e⟩ | ⟨hno, m, hm5, hm1, hm2, e⟩
      · have e1 : fX9_readAtom n FS (nI o) c = fX9_readAtom_s66 n FS (nI o) (nI w) (setI c 15 3 (nI (k + wl w))) := by
          rw [e0, e]
          simp only [Option.bind_some, fX9_readAtom_s59, if_pos (show (0 : Int32) ≤ nI w from nI_pos' (by omega))]
        rw [e1]
        by_cases w7 : w < 7
        · obtain ⟨c1, h1, h2⟩ := p_fld FS hn hB hR ho hk hC hS d p w7 hP
          exact ⟨1, c1, h1, Or.inl ⟨rfl, h2⟩⟩
        · by_cases w8 : w = 7
          · exact p_two FS hn hB hR ho hFS hk hC hS d p (mk := 109) (mk2 := 77) (deed := -12) (Or.inl ⟨w8, rfl, rfl, rfl⟩) hP
          · exact p_two FS hn hB hR ho hFS hk hC hS d p (mk := 120) (mk2 := 88) (deed := -13) (Or.inr ⟨by omega, rfl, rfl, rfl⟩) hP
      · refine ⟨0, setI c 15 3 (nI (k + m)), ?_, Or.inr ⟨rfl, k + m, by omega, (hS.f (by omega)).at, fun S D r h hb _ => ?_⟩⟩
        · rw [e0, e]
          simp only [Option.bind_some, fX9_readAtom_s59, if_neg (show ¬ (0 : Int32) ≤ -1 by decide), fX9_readAtom_s64]
        · refine m_itopf (r1 := r) hk (by omega) ?_ h.2.2.2.2.2
          rw [m_opw d p hT (by omega) h.1.1 h.1.2.2.1]
          rcases m_word (n := n) k r hn hT (by omega) h.1.2.2.2 h.1.1 h.1.2.2.1 with ⟨v, hv, hPv, -⟩ | ⟨-, m', -, hq1, hq2, e'⟩
          · exact absurd hPv (hno v hv)
          · have : m' = m := wd_max hq1 hq2 hm1 hm2
            subst this
            rw [e', neg2]
            exact m_100g _ (neg1 (k + m') (by omega)).1 r
end
