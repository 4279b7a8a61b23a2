theorem cnt3_upd (f : Nat → Int32) (N : Nat) (v : Int32) : ∀ k, k ≤ N → cnt3 (upd f N v) k = cnt3 f k := by
  intro k
  induction k with
  | zero => intro _; rfl
  | succ k ih => intro h; rw [cnt3, cnt3, ih (by omega), pk_un (by omega)]
/-- what stage() makes of the class, of the reference -/
def stgC (st : St) (N : Nat) (kd sp wy dl sk : Int32) : St := setI (setI (setI (setJ (setI (setI (setI (setI (setI (setI (setI (setI (setI st 2 N kd) 3 N sp) 4 N wy) 5 N dl) 6 N 1) 7 N 9999) 8 N 1) 9 N 1) 10 N (-1)) 1 12 (st.2 1 12 + sk.toInt64)) 1 10 (st.1 1 10 + (if kd = 3 then 1 else 0))) 1 9 (nI (N + 1))) 54 N sk
def stgM (st : St) (N : Nat) (kd sp wy dl sk : Int32) : St := setI (setJ (setJ (setI (setI (setI (setI (setI (setI (setI (setI (setI st 131 N kd) 132 N sp) 133 N wy) 134 N dl) 135 N 1) 136 N 9999) 137 N 1) 138 N 1) 139 N (-1)) 141 N sk.toInt64) 130 11 (st.2 130 11 + sk.toInt64)) 130 0 (nI (N + 1))
theorem penl (n N : Nat) (kd sp wy dl sk : Int32) (st : St) (h8 : N < 8) (e9 : st.1 1 9 = nI N) : (fX6_enlarge n kd sp wy dl sk st).bind (fun q => fX10_stage_s170 n sk (nI N) q.2) = some (nI N, stgC st N kd sp wy dl sk) := by
  have hb : inb (nI N) 8 = true := inb_nI h8 (by decide)
  have hl : nI N < 8 := nI_lt (b := 8) h8 (by decide)
  simp (config := { decide := true }) only [fX6_enlarge_s130, fX6_enlarge_s120, fX6_enlarge_s116, fX6_enlarge_s115, fX6_enlarge_s111, fX6_enlarge_s101, fX6_enlarge_s89, fX6_enlarge_s81, fX6_enlarge_s73, fX6_enlarge_s65, fX6_enlarge_s55, fX6_enlarge_s47, fX6_enlarge_s38, fX6_enlarge_s30, fX6_enlarge_s22, fX6_enlarge_s14, fX6_enlarge_s13, fX6_enlarge_s0, fX6_enlarge, e9, if_pos hl, hb, nI_clamp (show N < 2 ^ 31 by omega), sI_o, sI_2, sJ_1, sI_k, ne_eq, not_false_eq_true, if_true, nI_1]
  by_cases h3 : kd = 3
  · simp (config := { decide := true }) only [h3, if_true, Option.bind_some, fX10_stage_s170, fX10_stage_s182, hb, nI_clamp (show N < 2 ^ 31 by omega), stgC, e9]
  · simp (config := { decide := true }) only [if_neg h3, Option.bind_some, fX10_stage_s170, fX10_stage_s182, hb, nI_clamp (show N < 2 ^ 31 by omega), stgC, e9, if_true]
theorem pstg (n N : Nat) (kd sp wy dl sk : Int32) (st : St) (h8 : N ≤ 8) (e9 : st.1 1 9 = nI N) {w : Nat} (hw : w ≤ 400) (ew : st.1 53 10 = nI w) :
    fX10_stage n kd sp wy dl sk st = if ¬ (if N = 0 then sp = 0 else 0 ≤ sp ∧ sp < nI N) then some (-1, st) else if ¬ ((if N = 0 then kd = 0 else 1 ≤ kd ∧ kd ≤ 3) ∧ (1 ≤ wy ∧ wy ≤ 6) ∧ (0 ≤ dl ∧ dl ≤ 3) ∧ (0 ≤ sk ∧ sk ≤ 9999) ∧ (N ≠ 0 → st.1 2 sp.toNatClampNeg ≠ 3)) then some (-2, st) else if w ≠ 0 then some (-3, st) else if N = 8 then some (-4, st) else some (nI N, stgC st N kd (if N = 0 then -1 else sp) wy dl sk) := by
  have tail : ∀ v7 : Int32, v7 = (if N = 0 then 1 else 0) → fX10_stage_s124 n kd sp wy dl sk (nI N) v7 st = if w ≠ 0 then some (-3, st) else if N = 8 then some (-4, st) else some (nI N, stgC st N kd (if N = 0 then -1 else sp) wy dl sk) := by
    intro v7 h7
    simp only [fX10_stage_s124, ew]
    by_cases h0 : w = 0
    · rw [if_pos (by rw [h0]; decide), if_neg (fun q => q h0)]
      simp only [fX10_stage_s137]
      by_cases hN8 : N = 8
      · rw [if_neg (by rw [hN8]; decide), if_pos hN8]; rfl
      · rw [if_pos (show nI N < 8 from nI_lt (b := 8) (by omega) (by decide)), if_neg hN8]
        simp only [fX10_stage_s147, fX10_stage_s161, fX10_stage_s157, fX10_stage_s162]
        by_cases hN0 : N = 0
        · rw [h7, if_pos hN0, if_neg (by decide), if_pos hN0]; exact penl n N kd (-1) wy dl sk st (by omega) e9
        · rw [h7, if_neg hN0, if_pos rfl, if_neg hN0]; exact penl n N kd sp wy dl sk st (by omega) e9
    · rw [if_neg (fun q => absurd q (nI_nle (by omega) (by omega))), if_pos h0]; rfl
  have mid : ∀ v7 : Int32, v7 = (if N = 0 then 1 else 0) → (N ≠ 0 → 0 ≤ sp ∧ sp < nI N) → fX10_stage_s70 n kd sp wy dl sk (nI N) v7 st = if ¬ ((1 ≤ wy ∧ wy ≤ 6) ∧ (0 ≤ dl ∧ dl ≤ 3) ∧ (0 ≤ sk ∧ sk ≤ 9999) ∧ (N ≠ 0 → st.1 2 sp.toNatClampNeg ≠ 3)) then some (-2, st) else if w ≠ 0 then some (-3, st) else if N = 8 then some (-4, st) else some (nI N, stgC st N kd (if N = 0 then -1 else sp) wy dl sk) := by
    intro v7 h7 hsp
    have ht := tail v7 h7
    simp only [fX10_stage_s70, fX10_stage_s77, fX10_stage_s80, fX10_stage_s87, fX10_stage_s90, fX10_stage_s99, fX10_stage_s102, pw, Option.bind_some]
    by_cases c3 : 1 ≤ wy ∧ wy ≤ 6
    · rw [b1_pos c3, if_neg (show ¬ (1 : Int32) = 0 by decide)]
      by_cases c4 : 0 ≤ dl ∧ dl ≤ 3
      · rw [b1_pos c4, if_neg (show ¬ (1 : Int32) = 0 by decide)]
        by_cases c5 : 0 ≤ sk ∧ sk ≤ 9999
        · rw [b1_pos c5, if_neg (show ¬ (1 : Int32) = 0 by decide)]
          simp only [fX10_stage_s105, fX10_stage_s110]
          by_cases hN0 : N = 0
          · rw [h7, if_pos hN0, if_neg (by decide), if_neg (fun q => q ⟨c3, c4, c5, fun z => absurd hN0 z⟩)]
            rw [h7, if_pos hN0] at ht; exact ht
          · rw [h7, if_neg hN0, if_pos rfl]
            rw [h7, if_neg hN0] at ht
            obtain ⟨b, eb, hb⟩ := pshop n sp st h8 e9
            rw [eb]
            simp only [Option.bind_some, fX10_stage_s118, fX10_stage_s121]
            rcases hb with ⟨rfl, hs⟩ | ⟨rfl, hs⟩
            · rw [if_neg (by decide), if_pos (fun q => q.2.2.2 hN0 hs.2)]
            · rw [if_pos rfl, if_neg (fun q => q ⟨c3, c4, c5, fun _ z => hs ⟨hsp hN0, z⟩⟩)]; exact ht
        · rw [b1_neg c5, if_pos rfl, if_pos (fun q => c5 q.2.2.1)]
      · rw [b1_neg c4, if_pos rfl, if_pos (fun q => c4 q.2.1)]
    · rw [b1_neg c3, if_pos rfl, if_pos (fun q => c3 q.1)]
  simp only [fX10_stage, fX10_stage_s0, e9]
  by_cases hN0 : N = 0
  · subst hN0
    have hm := mid 1 rfl (fun z => absurd rfl z)
    rw [if_pos (show nI 0 = 0 from rfl)]
    simp only [fX10_stage_s14, fX10_stage_s19, fX10_stage_s26, fX10_stage_s30, fX10_stage_s44, if_true]
    rw [if_neg (by decide)]
    by_cases c1 : sp = 0
    · rw [if_pos c1, if_neg (fun q => q c1)]
      simp only [fX10_stage_s46, fX10_stage_s51, fX10_stage_s55, fX10_stage_s67]
      rw [if_neg (by decide)]
      by_cases c2 : kd = 0
      · rw [if_pos c2, hm]
        simp only [c2, true_and, if_true]
      · rw [if_neg c2, if_pos (fun q => c2 q.1)]
    · rw [if_neg c1, if_pos c1]
  · have hm := mid 0 (by rw [if_neg hN0])
    rw [if_neg (nI_ne0 (by omega) (by omega))]
    simp only [fX10_stage_s18, fX10_stage_s19, fX10_stage_s33, fX10_stage_s41, fX10_stage_s44, phas, Option.bind_some, e9, if_neg hN0]
    rw [if_pos trivial]
    by_cases c1 : 0 ≤ sp ∧ sp < nI N
    · rw [b1_pos c1, if_neg (show ¬ (1 : Int32) = 0 by decide), if_neg (fun q => q c1)]
      simp only [fX10_stage_s46, fX10_stage_s58, fX10_stage_s64, fX10_stage_s67, pw, Option.bind_some]
      rw [if_pos trivial]
      by_cases c2 : 1 ≤ kd ∧ kd ≤ 3
      · rw [b1_pos c2, if_neg (show ¬ (1 : Int32) = 0 by decide), hm (fun _ => c1)]
        simp only [c2, true_and, if_neg hN0]
      · rw [b1_neg c2, if_pos rfl, if_pos (fun q => c2 q.1)]
    · rw [b1_neg c1, if_pos rfl, if_pos c1]
theorem penlM (n N : Nat) (kd sp wy dl sk : Int32) (st : St) (h8 : N < 8) (e0 : st.1 130 0 = nI N) : fX11_stage_s142 n kd sp wy dl sk st = some (nI N, stgM st N kd (if N = 0 then -1 else sp) wy dl sk) := by
  have hb : inb (nI N) 8 = true := inb_nI h8 (by decide)
  simp (config := { decide := true }) only [fX11_stage_s142, fX11_stage_s156, fX11_stage_s169, fX11_stage_s173, e0, hb, nI_clamp (show N < 2 ^ 31 by omega), sI_o, ne_eq, not_false_eq_true, if_true]
  by_cases hN0 : N = 0
  · rw [if_pos (by rw [hN0]; rfl), if_pos hN0]
    simp (config := { decide := true }) only [fX11_stage_s174, fX11_stage_s175, fX11_stage_s183, fX11_stage_s192, fX11_stage_s200, fX11_stage_s210, fX11_stage_s218, fX11_stage_s226, fX11_stage_s234, fX11_stage_s244, fX11_stage_s256, fX11_stage_s266, hb, e0, nI_clamp (show N < 2 ^ 31 by omega), sI_o, sI_2, sJ_1, sJ_o, ne_eq, not_false_eq_true, if_true, nI_1, stgM]
  · rw [if_neg (nI_ne0 (by omega) (by omega)), if_neg hN0]
    simp (config := { decide := true }) only [fX11_stage_s174, fX11_stage_s175, fX11_stage_s183, fX11_stage_s192, fX11_stage_s200, fX11_stage_s210, fX11_stage_s218, fX11_stage_s226, fX11_stage_s234, fX11_stage_s244, fX11_stage_s256, fX11_stage_s266, hb, e0, nI_clamp (show N < 2 ^ 31 by omega), sI_o, sI_2, sJ_1, sJ_o, ne_eq, not_false_eq_true, if_true, nI_1, stgM]
theorem pstgM (n N : Nat) (kd sp wy dl sk : Int32) (st : St) (h8 : N ≤ 8) (e0 : st.1 130 0 = nI N) {w : Nat} (hw : w ≤ 400) (ew : st.1 130 12 = nI w) :
    fX11_stage n kd sp wy dl sk st = if ¬ (if N = 0 then sp = 0 else 0 ≤ sp ∧ sp < nI N) then some (-1, st) else if ¬ ((if N = 0 then kd = 0 else 1 ≤ kd ∧ kd ≤ 3) ∧ (1 ≤ wy ∧ wy ≤ 6) ∧ (0 ≤ dl ∧ dl ≤ 3) ∧ (0 ≤ sk ∧ sk ≤ 9999) ∧ (N ≠ 0 → st.1 131 sp.toNatClampNeg ≠ 3)) then some (-2, st) else if w ≠ 0 then some (-3, st) else if N = 8 then some (-4, st) else some (nI N, stgM st N kd (if N = 0 then -1 else sp) wy dl sk) := by
  have tail : fX11_stage_s120 n kd sp wy dl sk st = if w ≠ 0 then some (-3, st) else if N = 8 then some (-4, st) else some (nI N, stgM st N kd (if N = 0 then -1 else sp) wy dl sk) := by
    simp only [fX11_stage_s120, ew]
    by_cases h0 : w = 0
    · rw [if_pos (by rw [h0]; decide), if_neg (fun q => q h0)]
      simp only [fX11_stage_s130, e0]
      by_cases hN8 : N = 8
      · rw [if_pos (by rw [hN8]; rfl), if_pos hN8]; rfl
      · rw [if_neg (show ¬ nI N = 8 from fun q => hN8 ((nI_eq (b := 8) (by omega) (by decide)).mp q)), if_neg hN8]
        exact penlM n N kd sp wy dl sk st (by omega) e0
    · rw [if_neg (fun q => absurd q (nI_nle (by omega) (by omega))), if_pos h0]; rfl
  have mid : (N ≠ 0 → 0 ≤ sp ∧ sp < nI N) → fX11_stage_s50 n kd sp wy dl sk st = if ¬ ((1 ≤ wy ∧ wy ≤ 6) ∧ (0 ≤ dl ∧ dl ≤ 3) ∧ (0 ≤ sk ∧ sk ≤ 9999) ∧ (N ≠ 0 → st.1 131 sp.toNatClampNeg ≠ 3)) then some (-2, st) else if w ≠ 0 then some (-3, st) else if N = 8 then some (-4, st) else some (nI N, stgM st N kd (if N = 0 then -1 else sp) wy dl sk) := by
    intro hsp
    have z0 : fX11_stage_s93 n kd sp wy dl sk 0 st = some (-2, st) := rfl
    simp only [fX11_stage_s50, fX11_stage_s59, fX11_stage_s62, fX11_stage_s72, fX11_stage_s75, fX11_stage_s85, fX11_stage_s88, fX11_stage_s92, pinl (lo := 1) (hi := 6) (lo' := 1) (hi' := 6) (by decide) (by decide), pinl (lo := 0) (hi := 3) (lo' := 0) (hi' := 3) (by decide) (by decide), pinl (lo := 0) (hi := 9999) (lo' := 0) (hi' := 9999) (by decide) (by decide), Option.bind_some, z0]
    by_cases c3 : 1 ≤ wy ∧ wy ≤ 6
    · rw [b1_pos c3, if_neg (show ¬ (1 : Int32) = 0 by decide)]
      by_cases c4 : 0 ≤ dl ∧ dl ≤ 3
      · rw [b1_pos c4, if_neg (show ¬ (1 : Int32) = 0 by decide)]
        by_cases c5 : 0 ≤ sk ∧ sk ≤ 9999
        · rw [b1_pos c5, if_neg (show ¬ (1 : Int32) = 0 by decide)]
          simp only [fX11_stage_s93, fX11_stage_s100, fX11_stage_s107, fX11_stage_s117, e0]
          rw [if_neg (show ¬ (1 : Int32) = 0 by decide)]
          by_cases hN0 : N = 0
          · rw [if_pos (by rw [hN0]; decide), if_neg (fun q => q ⟨c3, c4, c5, fun z => absurd hN0 z⟩)]
            exact tail
          · rw [if_neg (nI_nle (by omega) (by omega))]
            obtain ⟨j, hj, rfl⟩ := st_of (by omega) (hsp hN0)
            rw [inb_nI (show j < 8 by omega) (by decide), if_pos rfl]
            by_cases h3 : st.1 131 (nI j).toNatClampNeg = 3
            · rw [if_pos h3, if_pos (fun q => q.2.2.2 hN0 h3)]
            · rw [if_neg h3, if_neg (fun q => q ⟨c3, c4, c5, fun _ => h3⟩)]; exact tail
        · rw [b1_neg c5, if_pos rfl, if_pos (fun q => c5 q.2.2.1)]
      · rw [b1_neg c4, if_pos rfl, if_pos (fun q => c4 q.2.1)]
    · rw [b1_neg c3, if_pos rfl, if_pos (fun q => c3 q.1)]
  simp only [fX11_stage, fX11_stage_s0, e0]
  by_cases hN0 : N = 0
  · subst hN0
    have hm := mid (fun z => absurd rfl z)
    rw [if_pos (show nI 0 = 0 from rfl)]
    simp only [fX11_stage_s7, fX11_stage_s11, fX11_stage_s22, if_true]
    by_cases c1 : sp = 0
    · rw [if_pos c1, if_neg (fun q => q c1)]
      simp only [fX11_stage_s24, fX11_stage_s31, fX11_stage_s35, fX11_stage_s92, e0]
      rw [if_pos (show nI 0 = 0 from rfl)]
      by_cases c2 : kd = 0
      · rw [if_pos c2, hm]
        simp only [c2, true_and, if_true]
      · rw [if_neg c2, if_pos (fun q => c2 q.1)]; rfl
    · rw [if_neg c1, if_pos c1]
  · rw [if_neg (nI_ne0 (by omega) (by omega))]
    simp only [fX11_stage_s14, fX11_stage_s19, fX11_stage_s22, pstage n sp st e0 h8, Option.bind_some, if_neg hN0]
    by_cases c1 : 0 ≤ sp ∧ sp < nI N
    · rw [b1_pos c1, if_neg (show ¬ (1 : Int32) = 0 by decide), if_neg (fun q => q c1)]
      simp only [fX11_stage_s24, fX11_stage_s38, fX11_stage_s47, fX11_stage_s92, pinl (lo := 1) (hi := 3) (lo' := 1) (hi' := 3) (by decide) (by decide), Option.bind_some, e0]
      rw [if_neg (nI_ne0 (by omega) (by omega))]
      by_cases c2 : 1 ≤ kd ∧ kd ≤ 3
      · rw [b1_pos c2, if_neg (show ¬ (1 : Int32) = 0 by decide), mid (fun _ => c1)]
        simp only [c2, true_and, if_neg hN0]
      · rw [b1_neg c2, if_pos rfl, if_pos (fun q => c2 q.1)]; rfl
    · rw [b1_neg c1, if_pos rfl, if_pos c1]
