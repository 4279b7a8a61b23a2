/-! ===== values of rules, fields; worth ===== -/
theorem deep_psh {f : Nat → Int32} {k d e : Nat} (h : deepOf f k = some d) (h1 : deepOf f (k + 1) = some e) (q : -8 < f k) : d < 32 ∧ e = d + 1 := by
  rw [deepOf, h] at h1
  simp only at h1
  rw [if_pos q] at h1
  by_cases r : d < 32
  · rw [if_pos r] at h1; cases h1; exact ⟨r, rfl⟩
  · rw [if_neg r] at h1; exact absurd h1 (by simp)
theorem deep_ded {f : Nat → Int32} {k d e : Nat} (h : deepOf f k = some d) (h1 : deepOf f (k + 1) = some e) (q : ¬ -8 < f k) : 2 ≤ d ∧ e = d - 1 := by
  rw [deepOf, h] at h1
  simp only at h1
  rw [if_neg q] at h1
  by_cases r : 2 ≤ d
  · rw [if_pos r] at h1; cases h1; exact ⟨r, rfl⟩
  · rw [if_neg r] at h1; exact absurd h1 (by simp)
theorem ev_two {Fd : Nat → Int64} {f : Nat → Int32} {k d : Nat} (h : deepOf f k = some d) (h2 : 2 ≤ d) : ∃ y x S, evL Fd f k = y :: x :: S ∧ S.length + 2 = d := by
  have h1 := (ev_len Fd f k d h).1
  match hS : evL Fd f k, h1 with
  | [], i1 => simp at i1; omega
  | [_], i1 => simp at i1; omega
  | y :: x :: S, i1 => exact ⟨y, x, S, rfl, by simpa using i1⟩
theorem fld_ok : ∀ f, f < 7 → (-8 : Int32) < -1 - nI f ∧ (-1 - nI f : Int32) < 0 ∧ (-1 : Int32) - (-1 - nI f) = nI f ∧ ¬ (0 : Int32) ≤ -1 - nI f := by decide
theorem num_ok {v : Nat} (h : v ≤ 9999) : (-8 : Int32) < nI v ∧ ¬ nI v < 0 ∧ ¬ (20000 : Int32) ≤ nI v ∧ ¬ (10000 : Int32) ≤ nI v ∧ (0 : Int32) ≤ nI v := by
  have e : (nI v).toInt = v := nI_toInt (by omega)
  refine ⟨?_, nI_pos (by omega), ?_, ?_, nI_pos' (by omega)⟩
  · rw [Int32.lt_iff_toInt_lt, e]; have : (-8 : Int32).toInt = -8 := rfl; omega
  · rw [Int32.le_iff_toInt_le, e]; have : (20000 : Int32).toInt = 20000 := rfl; omega
  · rw [Int32.le_iff_toInt_le, e]; have : (10000 : Int32).toInt = 10000 := rfl; omega
theorem step_two {c m : Int32} (h : stepR c m) : (-8 < c ∧ ((∃ v, v ≤ 9999 ∧ c = nI v ∧ m = nI v) ∨ (∃ f, f ≤ 6 ∧ c = -1 - nI f ∧ m = nI (10000 + f)))) ∨ (¬ -8 < c ∧ dedR c m) := by
  rcases h with ⟨v, hv, h1, h2⟩ | ⟨f, hf, h1, h2⟩ | h | h | h | h | h | h
  · exact Or.inl ⟨by rw [h1]; exact (num_ok hv).1, Or.inl ⟨v, hv, h1, h2⟩⟩
  · exact Or.inl ⟨by rw [h1]; exact (fld_ok f (by omega)).1, Or.inr ⟨f, hf, h1, h2⟩⟩
  · exact Or.inr ⟨by rw [h.1]; decide, Or.inl h⟩
  · exact Or.inr ⟨by rw [h.1]; decide, Or.inr (Or.inl h)⟩
  · exact Or.inr ⟨by rw [h.1]; decide, Or.inr (Or.inr (Or.inl h))⟩
  · exact Or.inr ⟨by rw [h.1]; decide, Or.inr (Or.inr (Or.inr (Or.inl h)))⟩
  · exact Or.inr ⟨by rw [h.1]; decide, Or.inr (Or.inr (Or.inr (Or.inr (Or.inl h))))⟩
  · exact Or.inr ⟨by rw [h.1]; decide, Or.inr (Or.inr (Or.inr (Or.inr (Or.inr h))))⟩
theorem psh_num (Fd : Nat → Int64) {v : Nat} (h : v ≤ 9999) : pshJ Fd (nI v) = (nI v).toInt64 := by unfold pshJ; rw [if_pos (num_ok h).2.2.2.2]
theorem psh_fld (Fd : Nat → Int64) {f : Nat} (h : f ≤ 6) : pshJ Fd (-1 - nI f) = Fd f := by unfold pshJ; rw [if_neg (fld_ok f (by omega)).2.2.2, (fld_ok f (by omega)).2.2.1, nI_clamp (by omega)]
def vlJ (Fd : Nat → Int64) (f : Nat → Int32) (len : Nat) : Int64 := (evL Fd f len).headD 0
theorem StkR.push {row : Nat → Int64} {S : List Int64} {v : Int64} (h : StkR row S) : StkR (vp_updL row S.length v) (v :: S) := ⟨pk_uLs, h.same (fun i hi => pk_uLn (by omega))⟩
def kJ1 (o1 : Nat) (st st1 : St) : Prop := st1.1 = st.1 ∧ ∀ o, o ≠ o1 → st1.2 o = st.2 o
theorem kJ1.rf (o1 : Nat) (st : St) : kJ1 o1 st st := ⟨rfl, fun _ _ => rfl⟩
theorem kJ1.tr {o1 : Nat} {x y z : St} (h : kJ1 o1 x y) (k : kJ1 o1 y z) : kJ1 o1 x z := ⟨k.1.trans h.1, fun o ho => (k.2 o ho).trans (h.2 o ho)⟩
theorem kJ1.pt (o1 : Nat) (st : St) (i : Nat) (v : Int64) : kJ1 o1 st (setJ st o1 i v) := ⟨rfl, fun _ ho => sJ_o ho⟩
theorem c_valL (n b r s len : Nat) (hr : r < 12) (S0 : St) (Fd : Nat → Int64) (f : Nat → Int32) (hlen : len ≤ 120) (hf : ∀ j, j < len → S0.1 12 (120 * r + j) = f j) (hst : ∀ j, j < len → ∃ m, stepR (f j) m) (esz : S0.1 13 r = nI len) (hd : deepOf f len = some 1) (hF : ∀ st', kJ1 14 S0 st' → ∀ g, g ≤ 6 → fX1_field n b (nI g) (nI s) st' = some (Fd g, st')) : ∀ (j k d : Nat) (st : St), k ≤ len → len - k < j → kJ1 14 S0 st → deepOf f k = some d → StkR (st.2 14) (evL Fd f k) → ∃ st1, fX7_valueOf_L13 n b j (nI r) (nI s) (nI d) (nI (120 * r)) (nI (120 * r + k)) st = some (vlJ Fd f len, st1) ∧ kJ1 14 S0 st1 := by
  intro j
  induction j with
  | zero => intro k d st _ hj; omega
  | succ j ih =>
    intro k d st hk hj e1 hdk hS
    obtain ⟨hlenS, h32⟩ := ev_len Fd f k d hdk
    have i0 : inb (nI r) 12 = true := inb_nI hr (by decide)
    have c0 : (nI r).toNatClampNeg = r := nI_clamp (by omega)
    have e13 : st.1 13 r = nI len := by rw [e1.1]; exact esz
    simp only [fX7_valueOf_L13, fX7_valueOf_s13, i0, c0, if_true, e13, nI_add]
    by_cases q : k = len
    · subst q
      rw [if_pos (show nI (120 * r + k) ≤ nI (120 * r + k) from Int32.le_refl _)]
      have hd1 : d = 1 := by rw [hd] at hdk; cases hdk; rfl
      subst hd1
      simp only [fX7_valueOf_s134, fX7_valueOf_s139, fX7_valueOf_s149]
      rw [if_neg (show ¬ nI 1 ≤ 0 by decide), if_pos (show inb 0 32 = true from rfl)]
      refine ⟨st, ?_, e1⟩
      match hE : evL Fd f k, hlenS with
      | [], i1 => simp at i1
      | [v], i1 =>
        rw [hE] at hS
        have : st.2 14 0 = v := hS.1
        rw [show vlJ Fd f k = v from by unfold vlJ; rw [hE]; rfl, ← this]
        rfl
      | _ :: _ :: _, i1 => simp at i1
    · rw [if_neg (show ¬ nI (120 * r + len) ≤ nI (120 * r + k) from nI_ge (by omega) (by omega))]
      have i1 : inb (nI (120 * r + k)) 1440 = true := inb_nI (by omega) (by decide)
      have c1 : (nI (120 * r + k)).toNatClampNeg = 120 * r + k := nI_clamp (by omega)
      have e12 : st.1 12 (120 * r + k) = f k := by rw [e1.1]; exact hf k (by omega)
      simp only [fX7_valueOf_s27, i1, c1, if_true, e12]
      obtain ⟨d1, hd1⟩ := deep_pre hd (k + 1) (by omega)
      obtain ⟨m, hm⟩ := hst k (by omega)
      have push : ∀ v : Int64, -8 < f k → v = pshJ Fd (f k) → ∃ st1, fX7_valueOf_s79 n (fX7_valueOf_L13 n b j) b (nI r) (nI s) (nI d) (nI (120 * r)) (nI (120 * r + k)) (nI d) v st = some (vlJ Fd f len, st1) ∧ kJ1 14 S0 st1 := by
        intro v h8 ev
        obtain ⟨g1, g2⟩ := deep_psh hdk hd1 h8
        subst g2
        simp only [fX7_valueOf_s79, fX7_valueOf_s80, fX7_valueOf_s128, inb_nI (show d < 32 by omega) (by decide), nI_clamp (show d < 2 ^ 31 by omega), if_true, nI_1]
        refine ih (k + 1) (d + 1) _ (by omega) (by omega) (e1.tr (kJ1.pt 14 st d v)) hd1 ?_
        rw [evL, if_pos h8, ← ev, sJ_row, ← hlenS]
        exact hS.push
      rcases step_two hm with ⟨h8, hv⟩ | ⟨h8, hdd⟩
      · obtain ⟨g1, g2⟩ := deep_psh hdk hd1 h8
        rw [if_neg (fun w => by rw [Int32.le_iff_toInt_le] at w; rw [Int32.lt_iff_toInt_lt] at h8; omega)]
        simp only [fX7_valueOf_s43]
        rw [if_neg (show ¬ (32 : Int32) ≤ nI d from nI_ge (b := 32) (by omega) (by decide))]
        simp only [fX7_valueOf_s53]
        rcases hv with ⟨v, hv, ec, -⟩ | ⟨g, hg, ec, -⟩
        · rw [ec, if_neg (num_ok hv).2.1]
          simp only [fX7_valueOf_s64]
          exact push _ h8 (by rw [ec, psh_num Fd hv])
        · rw [ec, if_pos (fld_ok g (by omega)).2.1]
          simp only [fX7_valueOf_s70, (fld_ok g (by omega)).2.2.1, hF st e1 g hg, Option.bind_some]
          exact push _ h8 (by rw [ec, psh_fld Fd hg])
      · obtain ⟨g1, g2⟩ := deep_ded hdk hd1 h8
        rw [if_pos (le_of_nlt32.mp h8)]
        simp only [fX7_valueOf_s86]
        rw [if_neg (show ¬ nI d ≤ 1 from nI_ge (a := 1) (by omega) (by omega))]
        obtain ⟨y, x, S, eE, hl⟩ := ev_two (Fd := Fd) hdk g1
        obtain ⟨t, rfl⟩ : ∃ t, d = t + 2 := ⟨d - 2, by omega⟩
        have hSl : S.length = t := by omega
        rw [eE] at hS
        have hy : st.2 14 (t + 1) = y := by rw [← hSl]; exact hS.1
        have hx : st.2 14 t = x := by rw [← hSl]; exact hS.2.1
        have hT : StkR (st.2 14) S := hS.2.2
        have d1' : nI (t + 2) + (-1) = nI (t + 1) := pk_m1 (t + 1)
        have d2' : nI (t + 1) - 1 = nI t := nI_pred t
        simp only [fX7_valueOf_s92, d1', d2', inb_nI (show t < 32 by omega) (by decide), inb_nI (show t + 1 < 32 by omega) (by decide), nI_clamp (show t < 2 ^ 31 by omega), nI_clamp (show t + 1 < 2 ^ 31 by omega), if_true, hy, hx, c_apply, Option.bind_some, fX7_valueOf_s124, c_bound, fX7_valueOf_s127, fX7_valueOf_s128, nI_1]
        rw [show t + 2 - 1 = t + 1 by omega] at g2
        subst g2
        refine ih (k + 1) (t + 1) _ (by omega) (by omega) (e1.tr (kJ1.pt 14 st t _)) hd1 ?_
        rw [evL, if_neg h8, eE, sJ_row, ← hSl]
        exact hT.push
theorem c_value (n b r s len : Nat) (hn : 200 ≤ n) (hr : r < 12) (st : St) (Fd : Nat → Int64) (f : Nat → Int32) (hlen : len ≤ 120) (hf : ∀ j, j < len → st.1 12 (120 * r + j) = f j) (hst : ∀ j, j < len → ∃ m, stepR (f j) m) (esz : st.1 13 r = nI len) (hd : deepOf f len = some 1) (hF : ∀ st', kJ1 14 st st' → ∀ g, g ≤ 6 → fX1_field n b (nI g) (nI s) st' = some (Fd g, st')) : ∃ st1, fX7_valueOf n b (nI r) (nI s) st = some (vlJ Fd f len, st1) ∧ kJ1 14 st st1 := by
  simp only [fX7_valueOf, fX7_valueOf_s0]
  rw [show nI r * 120 = nI (120 * r) from by rw [show (120 : Int32) = nI 120 from rfl, pk_mul, Nat.mul_comm]]
  exact c_valL n b r s len hr st Fd f hlen hf hst esz hd hF n 0 0 st (by omega) (by omega) (kJ1.rf _ _) rfl trivial
theorem ded_ok {c m : Int32} (h : dedR c m) : (20000 : Int32) ≤ m := by
  rcases h with ⟨-, rfl⟩ | ⟨-, rfl⟩ | ⟨-, rfl⟩ | ⟨-, rfl⟩ | ⟨-, rfl⟩ | ⟨-, rfl⟩ <;> decide
theorem m_valL (n r s len : Nat) (wk : Int32) (hr : r < 12) (S0 : St) (Fd : Nat → Int64) (hB : ∀ g, g ≤ 6 → bndJ (Fd g) = Fd g) (f : Nat → Int32) (hlen : len ≤ 120) (hst : ∀ j, j < len → stepR (f j) (S0.1 154 (120 * r + j))) (esz : S0.1 153 r = nI len) (hd : deepOf f len = some 1) (hF : ∀ st', kJ1 158 S0 st' → ∀ g, g ≤ 6 → fX11_field n (nI g) (nI s) wk st' = some (Fd g, st')) : ∀ (j k d : Nat) (st : St), k ≤ len → len - k < j → kJ1 158 S0 st → deepOf f k = some d → StkR (st.2 158) (evL Fd f k) → ∃ st1, fX11_worthOf_L6 n j (nI r) (nI s) wk (nI d) (nI k) st = some (vlJ Fd f len, st1) ∧ kJ1 158 S0 st1 := by
  intro j
  induction j with
  | zero => intro k d st _ hj; omega
  | succ j ih =>
    intro k d st hk hj e1 hdk hS
    obtain ⟨hlenS, h32⟩ := ev_len Fd f k d hdk
    have i0 : inb (nI r) 12 = true := inb_nI hr (by decide)
    have c0 : (nI r).toNatClampNeg = r := nI_clamp (by omega)
    have e13 : st.1 153 r = nI len := by rw [e1.1]; exact esz
    simp only [fX11_worthOf_L6, fX11_worthOf_s6, i0, c0, if_true, e13]
    by_cases q : k = len
    · subst q
      rw [if_pos (show nI k ≤ nI k from Int32.le_refl _)]
      have hd1 : d = 1 := by rw [hd] at hdk; cases hdk; rfl
      subst hd1
      simp only [fX11_worthOf_s127]
      rw [if_pos (show inb 0 130 = true from rfl)]
      refine ⟨st, ?_, e1⟩
      match hE : evL Fd f k, hlenS with
      | [], i1 => simp at i1
      | [v], i1 =>
        rw [hE] at hS
        have : st.2 158 0 = v := hS.1
        rw [show vlJ Fd f k = v from by unfold vlJ; rw [hE]; rfl, ← this]
        rfl
      | _ :: _ :: _, i1 => simp at i1
    · rw [if_neg (show ¬ nI len ≤ nI k from nI_ge (by omega) (by omega))]
      have ei : (120 : Int32) * nI r + nI k = nI (120 * r + k) := by rw [show (120 : Int32) = nI 120 from rfl, pk_mul, nI_add]
      have i1 : inb (nI (120 * r + k)) 1440 = true := inb_nI (by omega) (by decide)
      have c1 : (nI (120 * r + k)).toNatClampNeg = 120 * r + k := nI_clamp (by omega)
      have hm := hst k (by omega)
      rw [← e1.1] at hm
      simp only [fX11_worthOf_s17, ei, i1, c1, if_true]
      obtain ⟨d1, hd1⟩ := deep_pre hd (k + 1) (by omega)
      have push : ∀ v : Int64, -8 < f k → v = pshJ Fd (f k) → bndJ v = v → ∃ st1, fX11_worthOf_s71 n (fX11_worthOf_L6 n j) (nI r) (nI s) wk (nI d) (nI k) (nI d) v st = some (vlJ Fd f len, st1) ∧ kJ1 158 S0 st1 := by
        intro v h8 ev hb
        obtain ⟨g1, g2⟩ := deep_psh hdk hd1 h8
        subst g2
        simp only [fX11_worthOf_s71, m_kept0, hb, Option.bind_some, fX11_worthOf_s74, fX11_worthOf_s75, fX11_worthOf_s121, inb_nI (show d < 130 by omega) (by decide), nI_clamp (show d < 2 ^ 31 by omega), if_true, nI_1]
        refine ih (k + 1) (d + 1) _ (by omega) (by omega) (e1.tr (kJ1.pt 158 st d v)) hd1 ?_
        rw [evL, if_pos h8, ← ev, sJ_row, ← hlenS]
        exact hS.push
      rcases step_two hm with ⟨h8, hv⟩ | ⟨h8, hdd⟩
      · rcases hv with ⟨v, hv, ec, em⟩ | ⟨g, hg, ec, em⟩
        · rw [em, if_neg (num_ok hv).2.2.1]
          simp only [fX11_worthOf_s39]
          rw [if_neg (num_ok hv).2.2.2.1]
          simp only [fX11_worthOf_s53]
          refine push _ h8 (by rw [ec, psh_num Fd hv]) ?_
          rw [nI_l (by omega)]
          refine bnd_id ?_ ?_
          · rw [Int64.le_iff_toInt_le, lN_toInt (by omega)]; have : (-1000000000 : Int64).toInt = -1000000000 := rfl; omega
          · rw [Int64.le_iff_toInt_le, lN_toInt (by omega)]; have : (1000000000 : Int64).toInt = 1000000000 := rfl; omega
        · rw [em, if_neg (show ¬ (20000 : Int32) ≤ nI (10000 + g) from nI_ge (b := 20000) (by omega) (by decide))]
          simp only [fX11_worthOf_s39]
          rw [if_pos (show (10000 : Int32) ≤ nI (10000 + g) from nI_le (a := 10000) (by omega) (by omega))]
          simp only [fX11_worthOf_s59]
          rw [show nI (10000 + g) - 10000 = nI g from by rw [show (10000 : Int32) = nI 10000 by decide, pk_sub (by omega), Nat.add_sub_cancel_left]]
          simp only [hF st e1 g hg, Option.bind_some]
          exact push _ h8 (by rw [ec, psh_fld Fd hg]) (hB g hg)
      · obtain ⟨g1, g2⟩ := deep_ded hdk hd1 h8
        rw [if_pos (ded_ok hdd)]
        obtain ⟨y, x, S, eE, hl⟩ := ev_two (Fd := Fd) hdk g1
        obtain ⟨t, rfl⟩ : ∃ t, d = t + 2 := ⟨d - 2, by omega⟩
        have hSl : S.length = t := by omega
        rw [eE] at hS
        have hy : st.2 158 (t + 1) = y := by rw [← hSl]; exact hS.1
        have hx : st.2 158 t = x := by rw [← hSl]; exact hS.2.1
        have hT : StkR (st.2 158) S := hS.2.2
        have d1' : nI (t + 2) + (-1) = nI (t + 1) := pk_m1 (t + 1)
        have d2' : nI (t + 1) - 1 = nI t := nI_pred t
        simp only [fX11_worthOf_s81, d1', d2', inb_nI (show t < 130 by omega) (by decide), inb_nI (show t + 1 < 130 by omega) (by decide), nI_clamp (show t < 2 ^ 31 by omega), nI_clamp (show t + 1 < 2 ^ 31 by omega), if_true, hy, hx, m_stepOf n hdd, Option.bind_some, fX11_worthOf_s117, m_kept0, fX11_worthOf_s120, fX11_worthOf_s121, nI_1]
        rw [show t + 2 - 1 = t + 1 by omega] at g2
        subst g2
        refine ih (k + 1) (t + 1) _ (by omega) (by omega) (e1.tr (kJ1.pt 158 st t _)) hd1 ?_
        rw [evL, if_neg h8, eE, sJ_row, ← hSl]
        exact hT.push
theorem m_value (n r s len : Nat) (wk : Int32) (hn : 200 ≤ n) (hr : r < 12) (st : St) (Fd : Nat → Int64) (hB : ∀ g, g ≤ 6 → bndJ (Fd g) = Fd g) (f : Nat → Int32) (hlen : len ≤ 120) (hst : ∀ j, j < len → stepR (f j) (st.1 154 (120 * r + j))) (esz : st.1 153 r = nI len) (hd : deepOf f len = some 1) (hF : ∀ st', kJ1 158 st st' → ∀ g, g ≤ 6 → fX11_field n (nI g) (nI s) wk st' = some (Fd g, st')) : ∃ st1, fX11_worthOf n (nI r) (nI s) wk st = some (vlJ Fd f len, st1) ∧ kJ1 158 st st1 := by
  simp only [fX11_worthOf, fX11_worthOf_s0]
  exact m_valL n r s len wk hr st Fd hB f hlen hst esz hd hF n 0 0 st (by omega) (by omega) (kJ1.rf _ _) rfl trivial
/-! fields: W weeks are known, x0 the stock, x1 all that is owed, x2 all on the way, x6 what is not sent yet, h what was seen, by weeks -/
def m4 (W : Nat) : Nat := if W < 4 then W else 4
def meanN (W : Nat) (h : Nat → Nat) : Nat := sumN (fun i => h (W - m4 W + i)) (m4 W) / m4 W
def FdV (W x0 x1 x2 x6 : Nat) (h : Nat → Nat) (g : Nat) : Int64 := if g = 0 then lN x0 else if g = 1 then lN x1 else if g = 2 then lN x2 else if g = 3 then lN (if W = 0 then 0 else h (W - 1)) else if g = 4 then lN (meanN W h) else if g = 5 then lN (W - 1) else lN x0 + lN x2 + lN x6 - lN x1
def CE (st : St) (b s W x0 x1 x2 x6 : Nat) (h : Nat → Nat) : Prop := st.1 (b + 1) s = nI x0 ∧ st.1 (b + 4) s = nI x1 ∧ st.1 (b + 3) s = nI x2 ∧ st.1 (b + 6) s = nI x6 ∧ st.1 b 10 = nI W ∧ ∀ u, u < W → W ≤ u + 4 → st.1 (b + 8) (4 * s + u % 4) = nI (h u)
def ME (st : St) (s W x0 x1 x2 x6 : Nat) (h : Nat → Nat) : Prop := st.2 141 s = lN x0 ∧ (∃ m : Nat → Nat, (∀ c, c < 8 → st.2 142 (8 * s + c) = lN (m c)) ∧ sumN m 8 = x1) ∧ (∃ m : Nat → Nat, (∀ i, i < 6 → st.2 143 (7 * s + i + 1) = lN (m i)) ∧ sumN m 6 = x2) ∧ ((st.1 131 s = 0 ∧ x6 = 0) ∨ (st.1 131 s ≠ 0 ∧ ∃ (p o : Nat) (m : Nat → Nat), p < 8 ∧ st.1 132 s = nI p ∧ st.2 142 (8 * p + s) = lN o ∧ (∀ d, d < 4 → st.2 144 (4 * s + d) = lN (m d)) ∧ x6 = o + sumN m 4)) ∧ st.2 147 s = lN (if W = 0 then 0 else h (W - 1)) ∧ ∀ u, u < W → W ≤ u + 4 → st.2 149 (40 * s + u % 40) = lN (h u)
theorem m4_le (W : Nat) : m4 W ≤ 4 ∧ m4 W ≤ W := by unfold m4; split <;> omega
theorem sumN_front (f : Nat → Nat) : ∀ m, sumN f (m + 1) = f 0 + sumN (fun i => f (i + 1)) m := by
  intro m
  induction m with
  | zero => show 0 + f 0 = f 0 + 0; omega
  | succ m ih => rw [sumN, ih, sumN]; omega
theorem sumN_rev (h : Nat → Nat) (a : Nat) : ∀ m, sumN (fun i => h (a + i)) m = sumN (fun i => h (a + m - 1 - i)) m := by
  intro m
  induction m with
  | zero => rfl
  | succ m ih =>
    rw [sumN, ih, sumN_front, Nat.add_comm]
    have e1 : a + (m + 1) - 1 - 0 = a + m := by omega
    rw [e1, sumN_congr (g := fun i => h (a + (m + 1) - 1 - (i + 1))) m (fun i _ => by congr 1; omega)]
theorem i4s (s u : Nat) (hu : u < 2 ^ 31) : nI s * 4 + (nI u - nI u / 4 * 4) = nI (4 * s + u % 4) := by
  rw [show (4 : Int32) = nI 4 from rfl, pk_rem hu (by decide) (by decide), pk_mul, nI_add, Nat.mul_comm]
theorem mean_end (W : Nat) (h : Nat → Nat) (hW : W ≤ 400) (hh : ∀ u, h u ≤ 79992) : sumN (fun i => h (W - m4 W + i)) (m4 W) < 2 ^ 29 := by
  have := sumN_bd (f := fun i => h (W - m4 W + i)) (B := 79992) (m4 W) (fun i _ => hh _)
  have := (m4_le W).1
  have : m4 W * 79992 ≤ 4 * 79992 := Nat.mul_le_mul_right _ this
  omega
theorem c_mean (n b s W : Nat) (h : Nat → Nat) (hn : 200 ≤ n) (hs : s < 8) (hW : W ≤ 400) (hh : ∀ u, h u ≤ 79992) (st : St) (ew : st.1 b 10 = nI W) (hr : ∀ u, u < W → W ≤ u + 4 → st.1 (b + 8) (4 * s + u % 4) = nI (h u)) : fX1_mean n b (nI s) st = some (lN (meanN W h), st) := by
  have e4 : (if nI W < 4 then nI W else 4) = nI (m4 W) := by
    unfold m4
    by_cases q : W < 4
    · rw [if_pos q, if_pos (show nI W < 4 from nI_lt (b := 4) q (by decide))]
    · rw [if_neg q, if_neg (show ¬ nI W < 4 from nI_nlt (b := 4) (by omega) (by omega))]; rfl
  have hm := m4_le W
  have loop : ∀ (j k : Nat), k ≤ m4 W → m4 W - k < j → fX1_mean_L19 n b j (nI s) (nI (m4 W)) (lN (sumN (fun i => h (W - m4 W + i)) k)) (nI (W - m4 W + k)) st = some (lN (meanN W h), st) := by
    intro j
    induction j with
    | zero => intro k _ hj; omega
    | succ j ih =>
      intro k hk hj
      simp only [fX1_mean_L19, fX1_mean_s19, ew]
      by_cases q : k = m4 W
      · subst q
        rw [if_pos (nI_le (by omega) (by omega))]
        simp only [fX1_mean_s51]
        by_cases z : m4 W = 0
        · rw [z, if_pos (show nI 0 = 0 from rfl)]
          simp only [fX1_mean_s55, fX1_mean_s63, meanN, z, Nat.div_zero]; rfl
        · rw [if_neg (nI_ne0 (by omega) (by omega))]
          simp only [fX1_mean_s59, nI_l (show m4 W < 2 ^ 31 by omega)]
          have hb := mean_end W h hW hh
          rw [if_neg (fun w => by have := fb0 (by omega) w; omega), pk_lDiv (by omega) (by omega) (by omega)]
          rfl
      · rw [if_neg (show ¬ nI W ≤ nI (W - m4 W + k) from nI_ge (by omega) (by omega))]
        have hu : W - m4 W + k < W := by omega
        simp only [fX1_mean_s28, i4s s (W - m4 W + k) (by omega), inb_nI (show 4 * s + (W - m4 W + k) % 4 < 32 by omega) (by decide), nI_clamp (show 4 * s + (W - m4 W + k) % 4 < 2 ^ 31 by omega), if_true, hr _ hu (by omega), nI_1]
        have := hh (W - m4 W + k)
        rw [nI_l (by omega), lN_add]
        exact ih (k + 1) (by omega) (by omega)
  simp only [fX1_mean, fX1_mean_s0, ew, e4]
  rw [pk_sub hm.2]
  exact loop n 0 (by omega) (by omega)
theorem m_mean (n s W : Nat) (h : Nat → Nat) (hn : 200 ≤ n) (hs : s < 8) (hW : W ≤ 400) (hh : ∀ u, h u ≤ 79992) (st : St) (hr : ∀ u, u < W → W ≤ u + 4 → st.2 149 (40 * s + u % 40) = lN (h u)) : fX11_mean n (nI s) (nI W - 1) st = some (lN (meanN W h), st) := by
  have hm := m4_le W
  have fin : fX11_mean_s46 n (lN (sumN (fun i => h (W - 1 - i)) (m4 W))) (nI (m4 W)) st = some (lN (meanN W h), st) := by
    simp only [fX11_mean_s46]
    have er : sumN (fun i => h (W - 1 - i)) (m4 W) = sumN (fun i => h (W - m4 W + i)) (m4 W) := by
      rw [sumN_rev h (W - m4 W) (m4 W)]
      exact sumN_congr _ (fun i _ => by congr 1; omega)
    rw [er]
    by_cases z : m4 W = 0
    · rw [z, if_pos (show nI 0 = 0 from rfl)]
      simp only [fX11_mean_s51, fX11_mean_s60, meanN, z, Nat.div_zero]; rfl
    · rw [if_neg (nI_ne0 (by omega) (by omega))]
      simp only [fX11_mean_s55, nI_l (show m4 W < 2 ^ 31 by omega)]
      have hb := mean_end W h hW hh
      rw [if_neg (fun w => by have := fb0 (by omega) w; omega), pk_lDiv (by omega) (by omega) (by omega)]
      rfl
  have loop : ∀ (j k : Nat), k ≤ m4 W → m4 W - k < j → fX11_mean_L8 n j (nI s) (lN (sumN (fun i => h (W - 1 - i)) k)) (nI k) (nI W - nI (k + 1)) st = some (lN (meanN W h), st) := by
    intro j
    induction j with
    | zero => intro k _ hj; omega
    | succ j ih =>
      intro k hk hj
      simp only [fX11_mean_L8, fX11_mean_s8]
      by_cases q : k = m4 W
      · rw [q]
        by_cases z : W < 4
        · have e : m4 W = W := by unfold m4; rw [if_pos z]
          have : nI W - nI (m4 W + 1) < 0 := by rw [e]; exact pk_sneg (by omega) (by omega)
          rw [if_pos this, fin]
        · have e : m4 W = 4 := by unfold m4; rw [if_neg z]
          simp only [fX11_mean_s13]
          by_cases z2 : nI W - nI (m4 W + 1) < 0
          · rw [if_pos z2, fin]
          · rw [if_neg z2, if_pos (show (4 : Int32) ≤ nI (m4 W) from by rw [e]; decide), fin]
      · rw [pk_sub (show k + 1 ≤ W by omega), if_neg (nI_pos (by omega))]
        simp only [fX11_mean_s13]
        rw [if_neg (show ¬ (4 : Int32) ≤ nI k from nI_ge (b := 4) (by omega) (by decide))]
        simp only [fX11_mean_s19, i40' s (W - (k + 1)) (by omega), inb_nI (show 40 * s + (W - (k + 1)) % 40 < 320 by omega) (by decide), nI_clamp (show 40 * s + (W - (k + 1)) % 40 < 2 ^ 31 by omega), if_true, hr (W - (k + 1)) (by omega) (by omega), nI_1, lN_add]
        have e2 : nI (W - (k + 1)) + (-1) = nI W - nI (k + 1 + 1) := by
          rw [show W - (k + 1) = W - (k + 1) from rfl, ← pk_sub (show k + 1 ≤ W by omega), ← nI_1 (k + 1), Int32.sub_eq_add_neg, Int32.sub_eq_add_neg, Int32.neg_add, Int32.sub_eq_add_neg, Int32.add_assoc]
        rw [e2, show sumN (fun i => h (W - 1 - i)) k + h (W - (k + 1)) = sumN (fun i => h (W - 1 - i)) (k + 1) from by rw [sumN, show W - (k + 1) = W - 1 - k by omega]]
        exact ih (k + 1) (by omega) (by omega)
  simp only [fX11_mean, fX11_mean_s0]
  exact loop n 0 (by omega) (by omega)
theorem c_field (n b s W x0 x1 x2 x6 : Nat) (h : Nat → Nat) (hn : 200 ≤ n) (hs : s < 8) (hW : W ≤ 400) (hh : ∀ u, h u ≤ 79992) (h0 : x0 < 2 ^ 28) (h1 : x1 < 2 ^ 28) (h2 : x2 < 2 ^ 28) (h6 : x6 < 2 ^ 28) (st : St) (hC : CE st b s W x0 x1 x2 x6 h) : ∀ g, g ≤ 6 → fX1_field n b (nI g) (nI s) st = some (FdV W x0 x1 x2 x6 h g, st) := by
  obtain ⟨e0, e1, e2, e6, ew, hr⟩ := hC
  have i1 : inb (nI s) 8 = true := inb_nI (by omega) (by decide)
  have c1 : (nI s).toNatClampNeg = s := nI_clamp (by omega)
  intro g hg
  match g, hg with
  | 0, _ => show fX1_field_s40 n b (nI s) st = _; simp only [fX1_field_s40, i1, c1, if_true, e0, nI_l (show x0 < 2 ^ 31 by omega)]; rfl
  | 1, _ => show fX1_field_s48 n b (nI s) st = _; simp only [fX1_field_s48, i1, c1, if_true, e1, nI_l (show x1 < 2 ^ 31 by omega)]; rfl
  | 2, _ => show fX1_field_s56 n b (nI s) st = _; simp only [fX1_field_s56, i1, c1, if_true, e2, nI_l (show x2 < 2 ^ 31 by omega)]; rfl
  | 3, _ =>
    show fX1_field_s64 n b (nI s) st = some (lN (if W = 0 then 0 else h (W - 1)), st)
    simp only [fX1_field_s64, c_latest n b (b + 8) s st hW ew hs, Option.bind_some, fX1_field_s73]
    by_cases z : W = 0
    · rw [if_pos z, if_pos z]; rfl
    · have := hh (W - 1)
      rw [if_neg z, if_neg z, hr (W - 1) (by omega) (by omega), nI_l (by omega)]
  | 4, _ => show fX1_field_s75 n b (nI s) st = some (lN (meanN W h), st); simp only [fX1_field_s75, c_mean n b s W h hn hs hW hh st ew hr, Option.bind_some, fX1_field_s80]
  | 5, _ =>
    show fX1_field_s81 n b st = some (lN (W - 1), st)
    simp only [fX1_field_s81, ew]
    by_cases z : W = 0
    · subst z; rfl
    · obtain ⟨v, rfl⟩ : ∃ v, W = v + 1 := ⟨W - 1, by omega⟩
      rw [nI_pred]
      by_cases y : v = 0
      · subst y; rfl
      · rw [if_pos (show (0 : Int32) < nI v from nI_lt (a := 0) (by omega) (by omega)), nI_l (by omega)]; rfl
  | 6, _ =>
    show fX1_field_s93 n b (nI s) st = some (lN x0 + lN x2 + lN x6 - lN x1, st)
    simp only [fX1_field_s93, fX1_position, fX1_position_s0, i1, c1, if_true, e0, e1, e2, e6, Option.bind_some, fX1_field_s98]
    rw [nI_l (by omega), nI_l (by omega), nI_l (by omega), nI_l (by omega)]
theorem m_field (n s W x0 x1 x2 x6 : Nat) (h : Nat → Nat) (hn : 200 ≤ n) (hs : s < 8) (hW : W ≤ 400) (hh : ∀ u, h u ≤ 79992) (st : St) (hM : ME st s W x0 x1 x2 x6 h) : ∀ g, g ≤ 6 → fX11_field n (nI g) (nI s) (nI W - 1) st = some (FdV W x0 x1 x2 x6 h g, st) := by
  obtain ⟨e0, ⟨m1, hm1, em1⟩, ⟨m2, hm2, em2⟩, hk, ew, hr⟩ := hM
  have i1 : inb (nI s) 8 = true := inb_nI (by omega) (by decide)
  have c1 : (nI s).toNatClampNeg = s := nI_clamp (by omega)
  have o1 := m_owes n s st m1 (by omega) hs hm1
  have o2 := m_onWay n s st m2 (by omega) hs hm2
  rw [em1] at o1
  rw [em2] at o2
  intro g hg
  match g, hg with
  | 0, _ => show fX11_field_s40 n (nI s) st = _; simp only [fX11_field_s40, i1, c1, if_true, e0]; rfl
  | 1, _ => show fX11_field_s47 n (nI s) st = _; simp only [fX11_field_s47, o1, Option.bind_some, fX11_field_s52]; rfl
  | 2, _ => show fX11_field_s53 n (nI s) st = _; simp only [fX11_field_s53, o2, Option.bind_some, fX11_field_s58]; rfl
  | 3, _ => show fX11_field_s59 n (nI s) st = _; simp only [fX11_field_s59, i1, c1, if_true, ew]; rfl
  | 4, _ => show fX11_field_s66 n (nI s) (nI W - 1) st = some (lN (meanN W h), st); simp only [fX11_field_s66, m_mean n s W h hn hs hW hh st hr, Option.bind_some, fX11_field_s72]
  | 5, _ =>
    show fX11_field_s73 n (nI W - 1) st = some (lN (W - 1), st)
    simp only [fX11_field_s73]
    by_cases z : W = 0
    · subst z; rfl
    · obtain ⟨v, rfl⟩ : ∃ v, W = v + 1 := ⟨W - 1, by omega⟩
      rw [nI_pred, if_pos (nI_pos' (by omega))]
      simp only [fX11_field_s81, fX11_field_s83, nI_l (show v < 2 ^ 31 by omega)]; rfl
  | 6, _ =>
    show fX11_field_s84 n (nI s) st = some (lN x0 + lN x2 + lN x6 - lN x1, st)
    have hp : fX11_position n (nI s) st = some (lN x0 + lN x2 + lN x6 - lN x1, st) := by
      simp only [fX11_position, fX11_position_s0, i1, c1, if_true, o2, Option.bind_some, fX11_position_s11, o1, fX11_position_s17, e0]
      rcases hk with ⟨k0, rfl⟩ | ⟨k0, p, o, m, hp8, ep, eo, hg, rfl⟩
      · rw [if_pos k0]
        simp only [fX11_position_s76]
        rw [show lN 0 = 0 from rfl, Int64.add_zero]
      · rw [if_neg k0]
        simp only [fX11_position_s28, i1, c1, if_true, ep, i8mul, inb_nI (show 8 * p + s < 64 by omega) (by decide), nI_clamp (show 8 * p + s < 2 ^ 31 by omega), eo]
        have := m_given n s st m (fun i => lN x0 + lN x2 - lN x1 + lN (o + sumN m i)) (fun i => by rw [sumN, ← Nat.add_assoc, ← lN_add (o + sumN m i), Int64.add_assoc]) hs hg n 0 (by omega) (by omega)
        simp only [sumN, Nat.add_zero] at this
        rw [show nI 0 = 0 from rfl] at this
        rw [this]
        congr 2
        simp only [sumN]
        rw [Int64.sub_eq_add_neg, Int64.sub_eq_add_neg, Int64.add_assoc, Int64.add_comm (- lN x1), ← Int64.add_assoc]
    simp only [fX11_field_s84, hp, Option.bind_some, fX11_field_s89]
theorem FdV_bd (W x0 x1 x2 x6 : Nat) (h : Nat → Nat) (hW : W ≤ 400) (hh : ∀ u, h u ≤ 79992) (h0 : x0 < 2 ^ 27) (h1 : x1 < 2 ^ 27) (h2 : x2 < 2 ^ 27) (h6 : x6 < 2 ^ 27) : ∀ g, g ≤ 6 → bndJ (FdV W x0 x1 x2 x6 h g) = FdV W x0 x1 x2 x6 h g := by
  have key : ∀ x : Nat, x < 2 ^ 29 → bndJ (lN x) = lN x := by
    intro x hx
    refine bnd_id ?_ ?_
    · rw [Int64.le_iff_toInt_le, lN_toInt (by omega)]; have : (-1000000000 : Int64).toInt = -1000000000 := rfl; omega
    · rw [Int64.le_iff_toInt_le, lN_toInt (by omega)]; have : (1000000000 : Int64).toInt = 1000000000 := rfl; omega
  intro g hg
  match g, hg with
  | 0, _ => exact key x0 (by omega)
  | 1, _ => exact key x1 (by omega)
  | 2, _ => exact key x2 (by omega)
  | 3, _ => refine key _ ?_; have := hh (W - 1); split <;> omega
  | 4, _ =>
    refine key _ ?_
    have := mean_end W h hW hh
    unfold meanN
    exact Nat.lt_of_le_of_lt (Nat.div_le_self _ _) (by omega)
  | 5, _ => exact key _ (by omega)
  | 6, _ =>
    show bndJ (lN x0 + lN x2 + lN x6 - lN x1) = lN x0 + lN x2 + lN x6 - lN x1
    rw [lN_add, lN_add, ← lZ_nat, ← lZ_nat, lZ_sub]
    refine bnd_id ?_ ?_
    · rw [Int64.le_iff_toInt_le, lZ_ti (by omega)]; have : (-1000000000 : Int64).toInt = -1000000000 := rfl; omega
    · rw [Int64.le_iff_toInt_le, lZ_ti (by omega)]; have : (1000000000 : Int64).toInt = 1000000000 := rfl; omega
