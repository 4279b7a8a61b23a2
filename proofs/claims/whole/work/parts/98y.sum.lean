/-! ===== rule: products and sums ===== -/
section
variable {T R n : Nat} {B Q : Nat → Int32} (FS : Int32 → St → Option (Int32 × St)) {o : Nat}
theorem p_Product (hn : 200 ≤ n) (hB : BOK B T) (hR : R < 12) (ho : o ≤ 6) (hA : Par n T R B Q (fX9_readAtom n FS (nI o)) o (3 * o + 2) (fun _ => True) (fun _ => False) (fun _ => True)) : Par n T R B Q (fX9_readProduct n FS (nI o)) o (3 * o + 1) (fun S => rkL S ≤ 1) (fun x => rk x = 2) (fun c => c ≠ 42 ∧ c ≠ 47) := by
  have hT := hB.1
  have n10 : ¬ (1 : Int32) = 0 := by decide
  have loop : ∀ (d k : Nat) (C : List Int32), C.length ≤ k → ∀ (k1 i : Nat) (L : List Int32) (c : St), T - k1 = d → 2 * i ≤ k1 → CS T B c k1 (C ++ L) → k < k1 → k1 ≤ T → L.length ≤ k1 - k → (∀ b, b ≤ 3 * o + 1 → dpL b L = some (b + 1)) → (∃ M, RelL L M ∧ RefOK n T R B Q o k k1 M (fun S => rkL S ≤ 1) (fun x => rk x = 2)) → ∀ j, d < j → ∃ fine c1, fX9_readProduct_L8 n FS j (nI o) 1 (nI i) c = some (fine, c1) ∧ ((fine = 1 ∧ ∃ k' L, CS T B c1 k' (C ++ L) ∧ Good n T R B Q o (3 * o + 1) (fun S => rkL S ≤ 1) (fun x => rk x = 2) (fun c => c ≠ 42 ∧ c ≠ 47) k k' L) ∨ (fine = 0 ∧ ∃ p, p ≤ 130 ∧ CSf T B c1 p ∧ RefNo n T R B Q o k p (fun S => rkL S ≤ 1))) := by
    intro d
    induction d using Nat.strongRecOn with
    | _ d ih =>
      intro k C hC k1 i L c hd hi hS hk hkT hL hdp hM j hj
      obtain ⟨M, hRel, hRef⟩ := hM
      obtain ⟨q, rfl⟩ : ∃ q, j = q + 1 := ⟨j - 1, by omega⟩
      have hlen := hRel.len
      have e0 : fX9_readProduct_L8 n FS (q + 1) (nI o) 1 (nI i) c = fX9_readProduct_s18 n (fX9_readProduct_L8 n FS q) FS (nI o) 1 (nI i) c := by
        simp only [fX9_readProduct_L8, fX9_readProduct_s8, if_neg (show ¬ (120 : Int32) ≤ nI i from nI_ge (b := 120) (by omega) (by decide)), fX9_readProduct_s14, if_neg n10]
      have x1 := c_isNext n k1 42 (by decide) c hT hS.1 (by omega)
      have x2 := c_isNext n k1 47 (by decide) c hT hS.1 (by omega)
      -- a sign, and what stands behind it
      have go : ∀ (op deed : Int32), bt B T k1 = op → rk op = 2 → stepR deed (20000 + op) → ¬ (-8 : Int32) < deed → fX9_readProduct_L8 n FS (q + 1) (nI o) 1 (nI i) c = fX9_readProduct_s52 n (fX9_readProduct_L8 n FS q) FS (nI o) (nI i) deed c → ∃ fine c1, fX9_readProduct_L8 n FS (q + 1) (nI o) 1 (nI i) c = some (fine, c1) ∧ ((fine = 1 ∧ ∃ k' L, CS T B c1 k' (C ++ L) ∧ Good n T R B Q o (3 * o + 1) (fun S => rkL S ≤ 1) (fun x => rk x = 2) (fun c => c ≠ 42 ∧ c ≠ 47) k k' L) ∨ (fine = 0 ∧ ∃ p, p ≤ 130 ∧ CSf T B c1 p ∧ RefNo n T R B Q o k p (fun S => rkL S ≤ 1))) := by
        intro op deed hop hrk hstep hdeed e1
        have hne : op ≠ -1 := by intro w; rw [w] at hrk; exact absurd hrk (by decide)
        have hk1T : k1 < T := bt_in hop hne
        have hCL : (C ++ L).length ≤ k1 := by rw [List.length_append]; omega
        obtain ⟨f1, c1, g0, g1⟩ := hA (k1 + 1) (C ++ L) (setI c 15 3 (nI (k1 + 1))) (by omega) (by omega) hS.at
        have e2 : fX9_readProduct_L8 n FS (q + 1) (nI o) 1 (nI i) c = fX9_readProduct_s69 n (fX9_readProduct_L8 n FS q) FS (nI o) (nI i) deed f1 c1 := by
          rw [e1]
          simp only [fX9_readProduct_s52, hS.1.2.1, nI_1, fX9_readProduct_s64, g0, Option.bind_some]
        -- the reference takes the sign
        have sg : ∀ S D r, RS T R B Q r S o D → D.length + S.length ≤ k → rkL S ≤ 1 → ∃ r1, Rch n k 1 r (k1 + 1) 1 r1 ∧ RS T R B Q r1 (op :: S) o (D ++ M) := fun S D r h hb hh => by
          obtain ⟨pend, D', r1, b0, b1, b2, b3⟩ := hRef S D r h hb hh
          have hML : D'.length + pend.length = M.length := by rw [← b3, List.length_append, List.length_map]
          obtain ⟨r2, a0, a1⟩ := m_beop (n := n) hn hR hT hk1T hop (by omega) (fun x hx => by have := b2 x hx; omega) (by rw [hrk]; omega) b1 (by rw [List.length_append, List.length_append]; omega)
          have hit := m_itbe (n := n) (B := B) hT hk1T b1.1.1 (show k1 < k1 + 1 by omega) (by omega) a0 a1.1.1 a1.1.2.2.1
          rw [if_neg (by rw [hop]; intro w; rw [w] at hrk; exact absurd hrk (by decide))] at hit
          rw [List.append_assoc, b3] at a1
          exact ⟨r2, b0.tr hit, a1⟩
        rcases g1 with ⟨rfl, k2, L2, hCS, hk2, hk2T, hL2, hdp2, hfc, M2, hRel2, hRef2⟩ | ⟨rfl, p, hp130, hCf, hNo⟩
        · have hlen2 := hRel2.len
          have hCL2 : (C ++ L ++ L2).length ≤ k2 - 1 := by rw [List.length_append]; omega
          obtain ⟨c2, t0, t1⟩ := c_emit n k2 deed c1 (C ++ L ++ L2) hCS (by omega)
          have e3 : fX9_readProduct_L8 n FS (q + 1) (nI o) 1 (nI i) c = fX9_readProduct_L8 n FS q (nI o) 1 (nI (i + 1)) c2 := by
            rw [e2]
            simp only [fX9_readProduct_s69, t0, Option.bind_some, fX9_readProduct_s76, nI_1]
          rw [e3]
          refine ih (T - k2) (by omega) k C hC k2 (i + 1) (L ++ L2 ++ [deed]) c2 rfl (by omega) (by rw [← List.append_assoc, ← List.append_assoc]; exact t1) (by omega) hk2T (by rw [List.length_append, List.length_append, List.length_singleton]; omega) (fun b hb => ?_) ⟨M ++ M2 ++ [20000 + op], (hRel.app hRel2).app ⟨hstep, trivial⟩, fun S D r h hb hh => ?_⟩ q (by omega)
          · rw [dpL_app, dpL_app, hdp b hb]
            simp only [Option.bind_some]
            rw [hdp2 (b + 1) (by omega)]
            simp only [Option.bind_some]
            rw [dpL, if_neg hdeed, if_pos (by omega)]; rfl
          · obtain ⟨r1, a0, a1⟩ := sg S D r h hb hh
            obtain ⟨pend, D', r2, b0, b1, b2, b3⟩ := hRef2 (op :: S) (D ++ M) r1 a1 (by rw [List.length_append, List.length_cons]; omega) trivial
            refine ⟨pend ++ [op], M ++ D', r2, a0.tr b0, ?_, fun x hx => ?_, ?_⟩
            · rw [List.append_assoc, ← List.append_assoc D]; exact b1
            · rcases List.mem_append.mp hx with hx | hx
              · exact absurd (b2 x hx) (fun w => w)
              · rw [List.mem_singleton.mp hx]; exact hrk
            · rw [List.map_append, ← b3]; simp
        · obtain ⟨c2, t0, t1⟩ := c_emitf n p deed c1 hCf
          refine ⟨0, c2, ?_, Or.inr ⟨rfl, p, hp130, t1, fun S D r h hb hh => ?_⟩⟩
          · rw [e2]
            obtain ⟨u, rfl⟩ : ∃ u, q = u + 1 := ⟨q - 1, by omega⟩
            simp only [fX9_readProduct_s69, t0, Option.bind_some, fX9_readProduct_s76, nI_1, fX9_readProduct_L8, fX9_readProduct_s8, fX9_readProduct_s14, if_true]
            have z82 : fX9_readProduct_s82 n FS 0 c2 = some (0, c2) := rfl
            rw [z82]
            split <;> rfl
          · obtain ⟨r1, a0, a1⟩ := sg S D r h hb hh
            exact a0.en (hNo (op :: S) (D ++ M) r1 a1 (by rw [List.length_append, List.length_cons]; omega) trivial)
      by_cases z1 : bt B T k1 = 42
      · refine go 42 (-10) z1 (by decide) (Or.inr (Or.inr (Or.inr (Or.inr (Or.inl ⟨rfl, by decide⟩))))) (by decide) ?_
        rw [e0]
        simp only [fX9_readProduct_s18, x1, if_pos z1, Option.bind_some, fX9_readProduct_s24, if_neg n10, fX9_readProduct_s36, fX9_readProduct_s42, fX9_readProduct_s45]
      · by_cases z2 : bt B T k1 = 47
        · refine go 47 (-11) z2 (by decide) (Or.inr (Or.inr (Or.inr (Or.inr (Or.inr (Or.inl ⟨rfl, by decide⟩)))))) (by decide) ?_
          rw [e0]
          simp only [fX9_readProduct_s18, x1, if_neg z1, Option.bind_some, fX9_readProduct_s24, if_true, fX9_readProduct_s27, x2, if_pos z2, fX9_readProduct_s33, if_neg n10, fX9_readProduct_s36, x1, if_neg z1, fX9_readProduct_s42, fX9_readProduct_s50]
        · refine ⟨1, c, ?_, Or.inl ⟨rfl, k1, L, hS, hk, hkT, hL, hdp, ⟨z1, z2⟩, M, hRel, hRef⟩⟩
          rw [e0]
          simp only [fX9_readProduct_s18, x1, if_neg z1, Option.bind_some, fX9_readProduct_s24, if_true, fX9_readProduct_s27, x2, if_neg z2, fX9_readProduct_s33]
          rfl
  intro k C c hk hC hS
  obtain ⟨f1, c1, g0, g1⟩ := hA k C c hk hC hS
  have e0 : fX9_readProduct n FS (nI o) c = fX9_readProduct_L8 n FS n (nI o) f1 0 c1 := by
    simp only [fX9_readProduct, fX9_readProduct_s0, g0, Option.bind_some, fX9_readProduct_s5]
  rcases g1 with ⟨rfl, k1, L, hCS, hk1, hk1T, hL, hdp, hfc, M, hRel, hRef⟩ | ⟨rfl, p, hp130, hCf, hNo⟩
  · rw [e0]
    exact loop (T - k1) k C hC k1 0 L c1 rfl (by omega) hCS hk1 hk1T hL (fun b hb => hdp b (by omega)) ⟨M, hRel, fun S D r h hb hh => by
      obtain ⟨pend, D', r1, b0, b1, b2, b3⟩ := hRef S D r h hb trivial
      exact ⟨pend, D', r1, b0, b1, fun x hx => absurd (b2 x hx) (fun w => w), b3⟩⟩ n (by omega)
  · refine ⟨0, c1, ?_, Or.inr ⟨rfl, p, hp130, hCf, fun S D r h hb hh => hNo S D r h hb trivial⟩⟩
    rw [e0]
    obtain ⟨u, rfl⟩ : ∃ u, n = u + 1 := ⟨n - 1, by omega⟩
    simp only [fX9_readProduct_L8, fX9_readProduct_s8, if_neg (show ¬ (120 : Int32) ≤ 0 by decide), fX9_readProduct_s14, if_true]
    rfl
theorem p_Sum (hn : 200 ≤ n) (hB : BOK B T) (hR : R < 12) (ho : o ≤ 6) (hA : Par n T R B Q (fX9_readProduct n FS (nI o)) o (3 * o + 1) (fun S => rkL S ≤ 1) (fun x => rk x = 2) (fun c => c ≠ 42 ∧ c ≠ 47)) : Par n T R B Q (fX9_readSum n FS (nI o)) o (3 * o) (fun S => rkL S = 0) (fun x => 1 ≤ rk x) Nop := by
  have hT := hB.1
  have n10 : ¬ (1 : Int32) = 0 := by decide
  have loop : ∀ (d k : Nat) (C : List Int32), C.length ≤ k → ∀ (k1 i : Nat) (L : List Int32) (c : St), T - k1 = d → 2 * i ≤ k1 → CS T B c k1 (C ++ L) → k < k1 → k1 ≤ T → L.length ≤ k1 - k → (∀ b, b ≤ 3 * o → dpL b L = some (b + 1)) → (bt B T k1 ≠ 42 ∧ bt B T k1 ≠ 47) → (∃ M, RelL L M ∧ RefOK n T R B Q o k k1 M (fun S => rkL S = 0) (fun x => 1 ≤ rk x)) → ∀ j, d < j → ∃ fine c1, fX9_readSum_L8 n FS j (nI o) 1 (nI i) c = some (fine, c1) ∧ ((fine = 1 ∧ ∃ k' L, CS T B c1 k' (C ++ L) ∧ Good n T R B Q o (3 * o) (fun S => rkL S = 0) (fun x => 1 ≤ rk x) Nop k k' L) ∨ (fine = 0 ∧ ∃ p, p ≤ 130 ∧ CSf T B c1 p ∧ RefNo n T R B Q o k p (fun S => rkL S = 0))) := by
    intro d
    induction d using Nat.strongRecOn with
    | _ d ih =>
      intro k C hC k1 i L c hd hi hS hk hkT hL hdp hfo hM j hj
      obtain ⟨M, hRel, hRef⟩ := hM
      obtain ⟨q, rfl⟩ : ∃ q, j = q + 1 := ⟨j - 1, by omega⟩
      have hlen := hRel.len
      have e0 : fX9_readSum_L8 n FS (q + 1) (nI o) 1 (nI i) c = fX9_readSum_s18 n (fX9_readSum_L8 n FS q) FS (nI o) 1 (nI i) c := by
        simp only [fX9_readSum_L8, fX9_readSum_s8, if_neg (show ¬ (120 : Int32) ≤ nI i from nI_ge (b := 120) (by omega) (by decide)), fX9_readSum_s14, if_neg n10]
      have x1 := c_isNext n k1 43 (by decide) c hT hS.1 (by omega)
      have x2 := c_isNext n k1 45 (by decide) c hT hS.1 (by omega)
      -- a sign, and what stands behind it
      have go : ∀ (op deed : Int32), bt B T k1 = op → rk op = 1 → stepR deed (20000 + op) → ¬ (-8 : Int32) < deed → fX9_readSum_L8 n FS (q + 1) (nI o) 1 (nI i) c = fX9_readSum_s52 n (fX9_readSum_L8 n FS q) FS (nI o) (nI i) deed c → ∃ fine c1, fX9_readSum_L8 n FS (q + 1) (nI o) 1 (nI i) c = some (fine, c1) ∧ ((fine = 1 ∧ ∃ k' L, CS T B c1 k' (C ++ L) ∧ Good n T R B Q o (3 * o) (fun S => rkL S = 0) (fun x => 1 ≤ rk x) Nop k k' L) ∨ (fine = 0 ∧ ∃ p, p ≤ 130 ∧ CSf T B c1 p ∧ RefNo n T R B Q o k p (fun S => rkL S = 0))) := by
        intro op deed hop hrk hstep hdeed e1
        have hne : op ≠ -1 := by intro w; rw [w] at hrk; exact absurd hrk (by decide)
        have hk1T : k1 < T := bt_in hop hne
        have hCL : (C ++ L).length ≤ k1 := by rw [List.length_append]; omega
        obtain ⟨f1, c1, g0, g1⟩ := hA (k1 + 1) (C ++ L) (setI c 15 3 (nI (k1 + 1))) (by omega) (by omega) hS.at
        have e2 : fX9_readSum_L8 n FS (q + 1) (nI o) 1 (nI i) c = fX9_readSum_s69 n (fX9_readSum_L8 n FS q) FS (nI o) (nI i) deed f1 c1 := by
          rw [e1]
          simp only [fX9_readSum_s52, hS.1.2.1, nI_1, fX9_readSum_s64, g0, Option.bind_some]
        -- the reference takes the sign
        have sg : ∀ S D r, RS T R B Q r S o D → D.length + S.length ≤ k → rkL S = 0 → ∃ r1, Rch n k 1 r (k1 + 1) 1 r1 ∧ RS T R B Q r1 (op :: S) o (D ++ M) := fun S D r h hb hh => by
          obtain ⟨pend, D', r1, b0, b1, b2, b3⟩ := hRef S D r h hb hh
          have hML : D'.length + pend.length = M.length := by rw [← b3, List.length_append, List.length_map]
          obtain ⟨r2, a0, a1⟩ := m_beop (n := n) hn hR hT hk1T hop (by omega) (fun x hx => by have := b2 x hx; omega) (by rw [hrk]; omega) b1 (by rw [List.length_append, List.length_append]; omega)
          have hit := m_itbe (n := n) (B := B) hT hk1T b1.1.1 (show k1 < k1 + 1 by omega) (by omega) a0 a1.1.1 a1.1.2.2.1
          rw [if_neg (by rw [hop]; intro w; rw [w] at hrk; exact absurd hrk (by decide))] at hit
          rw [List.append_assoc, b3] at a1
          exact ⟨r2, b0.tr hit, a1⟩
        rcases g1 with ⟨rfl, k2, L2, hCS, hk2, hk2T, hL2, hdp2, hfc, M2, hRel2, hRef2⟩ | ⟨rfl, p, hp130, hCf, hNo⟩
        · have hlen2 := hRel2.len
          have hCL2 : (C ++ L ++ L2).length ≤ k2 - 1 := by rw [List.length_append]; omega
          obtain ⟨c2, t0, t1⟩ := c_emit n k2 deed c1 (C ++ L ++ L2) hCS (by omega)
          have e3 : fX9_readSum_L8 n FS (q + 1) (nI o) 1 (nI i) c = fX9_readSum_L8 n FS q (nI o) 1 (nI (i + 1)) c2 := by
            rw [e2]
            simp only [fX9_readSum_s69, t0, Option.bind_some, fX9_readSum_s76, nI_1]
          rw [e3]
          refine ih (T - k2) (by omega) k C hC k2 (i + 1) (L ++ L2 ++ [deed]) c2 rfl (by omega) (by rw [← List.append_assoc, ← List.append_assoc]; exact t1) (by omega) hk2T (by rw [List.length_append, List.length_append, List.length_singleton]; omega) (fun b hb => ?_) hfc ⟨M ++ M2 ++ [20000 + op], (hRel.app hRel2).app ⟨hstep, trivial⟩, fun S D r h hb hh => ?_⟩ q (by omega)
          · rw [dpL_app, dpL_app, hdp b hb]
            simp only [Option.bind_some]
            rw [hdp2 (b + 1) (by omega)]
            simp only [Option.bind_some]
            rw [dpL, if_neg hdeed, if_pos (by omega)]; rfl
          · obtain ⟨r1, a0, a1⟩ := sg S D r h hb hh
            obtain ⟨pend, D', r2, b0, b1, b2, b3⟩ := hRef2 (op :: S) (D ++ M) r1 a1 (by rw [List.length_append, List.length_cons]; omega) (show rk op ≤ 1 by omega)
            refine ⟨pend ++ [op], M ++ D', r2, a0.tr b0, ?_, fun x hx => ?_, ?_⟩
            · rw [List.append_assoc, ← List.append_assoc D]; exact b1
            · rcases List.mem_append.mp hx with hx | hx
              · have := b2 x hx; show 1 ≤ rk x; omega
              · rw [List.mem_singleton.mp hx]; show 1 ≤ rk op; omega
            · rw [List.map_append, ← b3]; simp
        · obtain ⟨c2, t0, t1⟩ := c_emitf n p deed c1 hCf
          refine ⟨0, c2, ?_, Or.inr ⟨rfl, p, hp130, t1, fun S D r h hb hh => ?_⟩⟩
          · rw [e2]
            obtain ⟨u, rfl⟩ : ∃ u, q = u + 1 := ⟨q - 1, by omega⟩
            simp only [fX9_readSum_s69, t0, Option.bind_some, fX9_readSum_s76, nI_1, fX9_readSum_L8, fX9_readSum_s8, fX9_readSum_s14, if_true]
            have z82 : fX9_readSum_s82 n FS 0 c2 = some (0, c2) := rfl
            rw [z82]
            split <;> rfl
          · obtain ⟨r1, a0, a1⟩ := sg S D r h hb hh
            exact a0.en (hNo (op :: S) (D ++ M) r1 a1 (by rw [List.length_append, List.length_cons]; omega) (show rk op ≤ 1 by omega))
      by_cases z1 : bt B T k1 = 43
      · refine go 43 (-8) z1 (by decide) (Or.inr (Or.inr (Or.inl ⟨rfl, by decide⟩))) (by decide) ?_
        rw [e0]
        simp only [fX9_readSum_s18, x1, if_pos z1, Option.bind_some, fX9_readSum_s24, if_neg n10, fX9_readSum_s36, fX9_readSum_s42, fX9_readSum_s45]
      · by_cases z2 : bt B T k1 = 45
        · refine go 45 (-9) z2 (by decide) (Or.inr (Or.inr (Or.inr (Or.inl ⟨rfl, by decide⟩)))) (by decide) ?_
          rw [e0]
          simp only [fX9_readSum_s18, x1, if_neg z1, Option.bind_some, fX9_readSum_s24, if_true, fX9_readSum_s27, x2, if_pos z2, fX9_readSum_s33, if_neg n10, fX9_readSum_s36, x1, if_neg z1, fX9_readSum_s42, fX9_readSum_s50]
        · refine ⟨1, c, ?_, Or.inl ⟨rfl, k1, L, hS, hk, hkT, hL, hdp, ⟨hfo.1, hfo.2, z1, z2⟩, M, hRel, hRef⟩⟩
          rw [e0]
          simp only [fX9_readSum_s18, x1, if_neg z1, Option.bind_some, fX9_readSum_s24, if_true, fX9_readSum_s27, x2, if_neg z2, fX9_readSum_s33]
          rfl
  intro k C c hk hC hS
  obtain ⟨f1, c1, g0, g1⟩ := hA k C c hk hC hS
  have e0 : fX9_readSum n FS (nI o) c = fX9_readSum_L8 n FS n (nI o) f1 0 c1 := by
    simp only [fX9_readSum, fX9_readSum_s0, g0, Option.bind_some, fX9_readSum_s5]
  rcases g1 with ⟨rfl, k1, L, hCS, hk1, hk1T, hL, hdp, hfc, M, hRel, hRef⟩ | ⟨rfl, p, hp130, hCf, hNo⟩
  · rw [e0]
    exact loop (T - k1) k C hC k1 0 L c1 rfl (by omega) hCS hk1 hk1T hL (fun b hb => hdp b (by omega)) hfc ⟨M, hRel, fun S D r h hb hh => by
      obtain ⟨pend, D', r1, b0, b1, b2, b3⟩ := hRef S D r h hb (show rkL S ≤ 1 from Nat.le_trans (Nat.le_of_eq hh) (by decide))
      exact ⟨pend, D', r1, b0, b1, fun x hx => (show 1 ≤ rk x from by have := b2 x hx; omega), b3⟩⟩ n (by omega)
  · refine ⟨0, c1, ?_, Or.inr ⟨rfl, p, hp130, hCf, fun S D r h hb hh => hNo S D r h hb (show rkL S ≤ 1 from Nat.le_trans (Nat.le_of_eq hh) (by decide))⟩⟩
    rw [e0]
    obtain ⟨u, rfl⟩ : ∃ u, n = u + 1 := ⟨n - 1, by omega⟩
    simp only [fX9_readSum_L8, fX9_readSum_s8, if_neg (show ¬ (120 : Int32) ≤ 0 by decide), fX9_readSum_s14, if_true]
    rfl
end
