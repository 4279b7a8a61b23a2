/-! ===== rule: bytes, codes, the reference's stack ===== -/
def bt (B : Nat → Int32) (T k : Nat) : Int32 := if k < T then B k else -1
def rk (x : Int32) : Nat := if x = 43 ∨ x = 45 then 1 else if x = 42 ∨ x = 47 then 2 else 0
def rkL : List Int32 → Nat
  | [] => 0
  | x :: _ => rk x
def StI (row : Nat → Int32) : List Int32 → Prop
  | [] => True
  | v :: S => row S.length = v ∧ StI row S
theorem StI.same {row row' : Nat → Int32} : ∀ {S : List Int32}, (∀ i, i < S.length → row' i = row i) → StI row S → StI row' S := by
  intro S
  induction S with
  | nil => intro _ _; trivial
  | cons v S ih => intro h hs; exact ⟨by rw [h S.length (by simp)]; exact hs.1, ih (fun i hi => h i (by rw [List.length_cons]; omega)) hs.2⟩
def BOK (B : Nat → Int32) (T : Nat) : Prop := T ≤ 120 ∧ ∀ j, j < T → ∃ v, v ≤ 255 ∧ B j = nI v
def CB (T : Nat) (B : Nat → Int32) (c : St) (k : Nat) : Prop := c.1 15 2 = nI T ∧ c.1 15 3 = nI k ∧ ∀ j, j < T → c.1 16 j = B j
def CS (T : Nat) (B : Nat → Int32) (c : St) (k : Nat) (C : List Int32) : Prop := CB T B c k ∧ c.1 15 4 = nI C.length ∧ ∀ i, i < C.length → c.1 17 i = C.getD i 0
def CSf (T : Nat) (B : Nat → Int32) (c : St) (p : Nat) : Prop := CB T B c p ∧ ∃ z, z ≤ 120 ∧ c.1 15 4 = nI z
def RS (T R : Nat) (B Q : Nat → Int32) (r : St) (S : List Int32) (o : Nat) (D : List Int32) : Prop := (r.1 130 32 = nI T ∧ r.1 130 28 = nI R ∧ (∀ j, j < T → r.1 155 j = B j) ∧ LetI r) ∧ (r.1 130 35 = nI S.length ∧ StI (r.1 157) S) ∧ r.1 130 36 = nI o ∧ r.1 130 37 = nI D.length ∧ (∀ i, i < D.length → r.1 154 (120 * R + i) = D.getD i 0) ∧ ∀ i, i < 120 * R → r.1 154 i = Q i
section
variable {T R : Nat} {B Q : Nat → Int32}
theorem bt_lt {k : Nat} (h : k < T) : bt B T k = B k := if_pos h
theorem bt_ge {k : Nat} (h : T ≤ k) : bt B T k = -1 := if_neg (by omega)
theorem bt_in {k : Nat} {v : Int32} (h : bt B T k = v) (hv : v ≠ -1) : k < T := by
  by_cases q : k < T
  · exact q
  · rw [bt_ge (by omega)] at h; exact absurd h.symm hv
theorem c_isNext (n k : Nat) (v : Int32) (hv : v ≠ -1) (c : St) (hB : T ≤ 120) (hC : CB T B c k) (hk : k ≤ 120) : fX9_isNext n v c = some (if bt B T k = v then 1 else 0, c) := by
  obtain ⟨e2, e3, eb⟩ := hC
  simp only [fX9_isNext, fX9_isNext_s0, e2, e3]
  by_cases q : k < T
  · rw [if_neg (nI_ge q (by omega)), bt_lt q]
    simp only [fX9_isNext_s11, e3, inb_nI (show k < 120 by omega) (by decide), nI_clamp (show k < 2 ^ 31 by omega), if_true, eb k q]
    by_cases z : B k = v
    · rw [if_pos z, if_pos z]; rfl
    · rw [if_neg z, if_neg z]; rfl
  · rw [if_pos (nI_le (by omega) (by omega)), bt_ge (by omega), if_neg (fun w => hv w.symm)]; rfl
theorem c_isDigit (n k : Nat) (c : St) (hB : T ≤ 120) (hC : CB T B c k) (hk : k ≤ 120) : fX9_isDigit n c = some (if 48 ≤ bt B T k ∧ bt B T k ≤ 57 then 1 else 0, c) := by
  obtain ⟨e2, e3, eb⟩ := hC
  simp only [fX9_isDigit, fX9_isDigit_s0, e2, e3]
  by_cases q : k < T
  · rw [if_neg (nI_ge q (by omega)), bt_lt q]
    simp only [fX9_isDigit_s11, e3, inb_nI (show k < 120 by omega) (by decide), nI_clamp (show k < 2 ^ 31 by omega), if_true, eb k q]
    by_cases z : B k < 48
    · rw [if_pos z, if_neg (fun w => absurd z (le_of_nlt32.mpr w.1))]; rfl
    · rw [if_neg z]
      simp only [fX9_isDigit_s25, e3, inb_nI (show k < 120 by omega) (by decide), nI_clamp (show k < 2 ^ 31 by omega), if_true, eb k q]
      by_cases y : 57 < B k
      · rw [if_pos y, if_neg (fun w => absurd y (le_of_nlt32.mpr w.2))]; rfl
      · rw [if_neg y, if_pos ⟨le_of_nlt32.mp z, le_of_nlt32.mp y⟩]; rfl
  · rw [if_pos (nI_le (by omega) (by omega)), bt_ge (by omega), if_neg (by decide)]; rfl
theorem CB.at {c : St} {k k' : Nat} (h : CB T B c k) : CB T B (setI c 15 3 (nI k')) k' := ⟨by rw [sI_k (by decide)]; exact h.1, sI_at, fun j hj => by rw [sI_o (by decide)]; exact h.2.2 j hj⟩
theorem CS.at {c : St} {k k' : Nat} {C : List Int32} (h : CS T B c k C) : CS T B (setI c 15 3 (nI k')) k' C := ⟨h.1.at, by rw [sI_k (by decide)]; exact h.2.1, fun i hi => by rw [sI_o (by decide)]; exact h.2.2 i hi⟩
theorem CSf.at {c : St} {k k' : Nat} (h : CSf T B c k) : CSf T B (setI c 15 3 (nI k')) k' := ⟨h.1.at, by rw [sI_k (by decide)]; exact h.2⟩
theorem CS.f {c : St} {k : Nat} {C : List Int32} (h : CS T B c k C) (hl : C.length ≤ 120) : CSf T B c k := ⟨h.1, C.length, hl, h.2.1⟩
theorem c_take (n k : Nat) (v : Int32) (hv : v ≠ -1) (c : St) (hB : T ≤ 120) (hC : CB T B c k) (hk : k ≤ 120) : fX9_take n v c = if bt B T k = v then some (1, setI c 15 3 (nI (k + 1))) else some (0, setI c 15 3 (nI k)) := by
  simp only [fX9_take, fX9_take_s0, c_isNext n k v hv c hB hC hk, Option.bind_some, fX9_take_s5, hC.2.1]
  by_cases q : bt B T k = v
  · rw [if_pos q, if_pos q, if_neg (show ¬ (1 : Int32) = 0 by decide)]
    simp only [fX9_take_s15, fX9_take_s20, fX9_take_s24, nI_1]
    rfl
  · rw [if_neg q, if_neg q, if_pos rfl]
    simp only [fX9_take_s19, fX9_take_s20, fX9_take_s24, Int32.add_zero]
    rfl
theorem getD_app {C : List Int32} {v : Int32} {i : Nat} (h : i < C.length) : (C ++ [v]).getD i 0 = C.getD i 0 := by
  rw [List.getD_eq_getElem?_getD, List.getD_eq_getElem?_getD, List.getElem?_append_left h]
theorem getD_last {C : List Int32} {v : Int32} : (C ++ [v]).getD C.length 0 = v := by
  rw [List.getD_eq_getElem?_getD, List.getElem?_append_right (Nat.le_refl _)]; simp
theorem c_emit (n k : Nat) (v : Int32) (c : St) (C : List Int32) (hC : CS T B c k C) (hl : C.length < 120) : ∃ c1, fX9_emit n v c = some ((), c1) ∧ CS T B c1 k (C ++ [v]) := by
  obtain ⟨⟨e2, e3, eb⟩, e4, ec⟩ := hC
  simp only [fX9_emit, fX9_emit_s0, e4]
  rw [if_neg (show ¬ (120 : Int32) ≤ nI C.length from nI_ge (b := 120) (by omega) (by decide))]
  simp only [fX9_emit_s12, e4, inb_nI hl (by decide), nI_clamp (show C.length < 2 ^ 31 by omega), if_true, fX9_emit_s22, fX9_emit_s32]
  refine ⟨_, rfl, ⟨by rw [sI_k (by decide), sI_o (by decide)]; exact e2, by rw [sI_k (by decide), sI_o (by decide)]; exact e3, fun j hj => by rw [sI_o (by decide), sI_o (by decide)]; exact eb j hj⟩, ?_, fun i hi => ?_⟩
  · rw [sI_at, sI_o (by decide), e4, nI_1, List.length_append]; rfl
  · rw [sI_o (by decide)]
    rw [List.length_append] at hi
    by_cases z : i = C.length
    · subst z; rw [sI_at, getD_last]
    · rw [sI_k z, getD_app (by simp at hi; omega)]; exact ec i (by simp at hi; omega)
theorem c_emitf (n p : Nat) (v : Int32) (c : St) (hC : CSf T B c p) : ∃ c1, fX9_emit n v c = some ((), c1) ∧ CSf T B c1 p := by
  obtain ⟨⟨e2, e3, eb⟩, z, hz, e4⟩ := hC
  simp only [fX9_emit, fX9_emit_s0, e4]
  by_cases q : z = 120
  · subst q
    rw [if_pos (show (120 : Int32) ≤ nI 120 by decide)]
    exact ⟨c, rfl, ⟨e2, e3, eb⟩, 120, by omega, e4⟩
  · rw [if_neg (show ¬ (120 : Int32) ≤ nI z from nI_ge (b := 120) (by omega) (by decide))]
    simp only [fX9_emit_s12, e4, inb_nI (show z < 120 by omega) (by decide), nI_clamp (show z < 2 ^ 31 by omega), if_true, fX9_emit_s22, fX9_emit_s32]
    refine ⟨_, rfl, ⟨by rw [sI_k (by decide), sI_o (by decide)]; exact e2, by rw [sI_k (by decide), sI_o (by decide)]; exact e3, fun j hj => by rw [sI_o (by decide), sI_o (by decide)]; exact eb j hj⟩, z + 1, by omega, ?_⟩
    rw [sI_at, sI_o (by decide), e4, nI_1]
/-! the reference -/
theorem m_byteAt (n k : Nat) (r : St) (hT : r.1 130 32 = nI T) (hb : ∀ j, j < T → r.1 155 j = B j) (hB : T ≤ 120) (hk : k ≤ 200) : fX11_byteAt n (nI k) r = some (bt B T k, r) := by
  simp only [fX11_byteAt, fX11_byteAt_s0, hT]
  by_cases q : k < T
  · rw [if_neg (nI_ge q (by omega)), bt_lt q]
    simp only [fX11_byteAt_s8, inb_nI (show k < 120 by omega) (by decide), nI_clamp (show k < 2 ^ 31 by omega), if_true, hb k q, fX11_byteAt_s18]
  · rw [if_pos (nI_le (by omega) (by omega)), bt_ge (by omega)]; rfl
theorem m_rank (n : Nat) (x : Int32) (r : St) : fX11_rank n x r = some (nI (rk x), r) := by
  simp only [fX11_rank, fX11_rank_s0, fX11_rank_s6, fX11_rank_s16, fX11_rank_s22, fX11_rank_s12, fX11_rank_s28, fX11_rank_s32, fX11_rank_s33]
  unfold rk
  by_cases h1 : x = 43
  · rw [if_pos h1, if_pos (Or.inl h1)]; rfl
  · rw [if_neg h1]
    by_cases h2 : x = 45
    · rw [if_pos h2, if_pos (Or.inr h2)]; rfl
    · rw [if_neg h2, if_neg (show ¬ (x = 43 ∨ x = 45) from fun w => w.elim h1 h2)]
      by_cases h3 : x = 42
      · rw [if_pos h3, if_pos (Or.inl h3)]; rfl
      · rw [if_neg h3]
        by_cases h4 : x = 47
        · rw [if_pos h4, if_pos (Or.inr h4)]; rfl
        · rw [if_neg h4, if_neg (show ¬ (x = 42 ∨ x = 47) from fun w => w.elim h3 h4)]; rfl
theorem rk_le (x : Int32) : rk x ≤ 2 := by unfold rk; split <;> (try split) <;> omega
theorem m_puts (n : Nat) (v : Int32) (r : St) (S : List Int32) (o : Nat) (D : List Int32) (hR : R < 12) (h : RS T R B Q r S o D) (hl : D.length < 120) : ∃ r1, fX11_puts n v r = some ((), r1) ∧ RS T R B Q r1 S o (D ++ [v]) := by
  obtain ⟨⟨a1, a2, a3, a4⟩, ⟨b1, b2⟩, c1, d1, d2, d3⟩ := h
  have e : (120 : Int32) * nI R + nI D.length = nI (120 * R + D.length) := by rw [show (120 : Int32) = nI 120 from rfl, pk_mul, nI_add]
  simp only [fX11_puts, fX11_puts_s0, a2, d1, e, inb_nI (show 120 * R + D.length < 1440 by omega) (by decide), nI_clamp (show 120 * R + D.length < 2 ^ 31 by omega), if_true, fX11_puts_s18, fX11_puts_s28]
  have oo : ∀ o, o ≠ 154 → o ≠ 130 → ∀ w, (setI (setI r 154 (120 * R + D.length) v) 130 37 w).1 o = r.1 o := fun o h1 h2 w => by rw [sI_o h2, sI_o h1]
  have o0 : ∀ k, k ≠ 37 → ∀ w, (setI (setI r 154 (120 * R + D.length) v) 130 37 w).1 130 k = r.1 130 k := fun k hk w => by rw [sI_k hk, sI_o (by decide)]
  refine ⟨_, rfl, ⟨by rw [o0 32 (by decide)]; exact a1, by rw [o0 28 (by decide)]; exact a2, fun j hj => by rw [oo 155 (by decide) (by decide)]; exact a3 j hj, fun i hi => by rw [oo 156 (by decide) (by decide)]; exact a4 i hi⟩, ⟨by rw [o0 35 (by decide)]; exact b1, by rw [oo 157 (by decide) (by decide)]; exact b2⟩, by rw [o0 36 (by decide)]; exact c1, ?_, fun i hi => ?_, fun i hi => ?_⟩
  · rw [sI_at, sI_o (by decide), d1, nI_1, List.length_append]; rfl
  · rw [sI_o (by decide)]
    rw [List.length_append] at hi
    by_cases z : i = D.length
    · subst z; rw [sI_at, getD_last]
    · rw [sI_k (by omega), getD_app (by simp at hi; omega)]; exact d2 i (by simp at hi; omega)
  · rw [sI_o (by decide), sI_k (by omega)]; exact d3 i hi
theorem RS.pop {r : St} {x : Int32} {S : List Int32} {o : Nat} {D : List Int32} (h : RS T R B Q r (x :: S) o D) : RS T R B Q (setI r 130 35 (nI S.length)) S o D := by
  obtain ⟨⟨a1, a2, a3, a4⟩, ⟨b1, b2⟩, c1, d1, d2, d3⟩ := h
  exact ⟨⟨by rw [sI_k (by decide)]; exact a1, by rw [sI_k (by decide)]; exact a2, fun j hj => by rw [sI_o (by decide)]; exact a3 j hj, fun i hi => by rw [sI_o (by decide)]; exact a4 i hi⟩, ⟨sI_at, by rw [sI_o (by decide)]; exact b2.2⟩, by rw [sI_k (by decide)]; exact c1, by rw [sI_k (by decide)]; exact d1, fun i hi => by rw [sI_o (by decide)]; exact d2 i hi, fun i hi => by rw [sI_o (by decide)]; exact d3 i hi⟩
theorem RS.push {r : St} {x : Int32} {S : List Int32} {o : Nat} {D : List Int32} (h : RS T R B Q r S o D) : RS T R B Q (setI (setI r 157 S.length x) 130 35 (nI (S.length + 1))) (x :: S) o D := by
  obtain ⟨⟨a1, a2, a3, a4⟩, ⟨b1, b2⟩, c1, d1, d2, d3⟩ := h
  exact ⟨⟨by rw [sI_k (by decide), sI_o (by decide)]; exact a1, by rw [sI_k (by decide), sI_o (by decide)]; exact a2, fun j hj => by rw [sI_o (by decide), sI_o (by decide)]; exact a3 j hj, fun i hi => by rw [sI_o (by decide), sI_o (by decide)]; exact a4 i hi⟩, ⟨by rw [sI_at]; rfl, ⟨by rw [sI_o (by decide), sI_at], by rw [sI_o (by decide)]; exact b2.same (fun i hi => sI_k (by omega))⟩⟩, by rw [sI_k (by decide), sI_o (by decide)]; exact c1, by rw [sI_k (by decide), sI_o (by decide)]; exact d1, fun i hi => by rw [sI_o (by decide), sI_o (by decide)]; exact d2 i hi, fun i hi => by rw [sI_o (by decide), sI_o (by decide)]; exact d3 i hi⟩
theorem RS.opens {r : St} {S : List Int32} {o o' : Nat} {D : List Int32} (h : RS T R B Q r S o D) : RS T R B Q (setI r 130 36 (nI o')) S o' D := by
  obtain ⟨⟨a1, a2, a3, a4⟩, ⟨b1, b2⟩, c1, d1, d2, d3⟩ := h
  exact ⟨⟨by rw [sI_k (by decide)]; exact a1, by rw [sI_k (by decide)]; exact a2, fun j hj => by rw [sI_o (by decide)]; exact a3 j hj, fun i hi => by rw [sI_o (by decide)]; exact a4 i hi⟩, ⟨by rw [sI_k (by decide)]; exact b1, by rw [sI_o (by decide)]; exact b2⟩, sI_at, by rw [sI_k (by decide)]; exact d1, fun i hi => by rw [sI_o (by decide)]; exact d2 i hi, fun i hi => by rw [sI_o (by decide)]; exact d3 i hi⟩
/-- the top of the stack is changed -/
theorem RS.top {r : St} {x y : Int32} {S : List Int32} {o : Nat} {D : List Int32} (h : RS T R B Q r (x :: S) o D) : RS T R B Q (setI r 157 S.length y) (y :: S) o D := by
  obtain ⟨⟨a1, a2, a3, a4⟩, ⟨b1, b2⟩, c1, d1, d2, d3⟩ := h
  exact ⟨⟨by rw [sI_o (by decide)]; exact a1, by rw [sI_o (by decide)]; exact a2, fun j hj => by rw [sI_o (by decide)]; exact a3 j hj, fun i hi => by rw [sI_o (by decide)]; exact a4 i hi⟩, ⟨by rw [sI_o (by decide)]; exact b1, sI_at, b2.2.same (fun i hi => sI_k (by omega))⟩, by rw [sI_o (by decide)]; exact c1, by rw [sI_o (by decide)]; exact d1, fun i hi => by rw [sI_o (by decide)]; exact d2 i hi, fun i hi => by rw [sI_o (by decide)]; exact d3 i hi⟩
theorem m_unw (n least : Nat) (hR : R < 12) (hl1 : 1 ≤ least) (hl2 : least ≤ 2) (S : List Int32) (o : Nat) (hS : rkL S < least) : ∀ (pend : List Int32) (j : Nat) (r : St) (D : List Int32), pend.length < j → (∀ x, x ∈ pend → least ≤ rk x) → RS T R B Q r (pend ++ S) o D → D.length + (pend ++ S).length ≤ 120 → ∃ r1, fX11_unwinds_L0 n j (nI least) r = some ((), r1) ∧ RS T R B Q r1 S o (D ++ pend.map (fun x => 20000 + x)) := by
  intro pend
  induction pend with
  | nil =>
    intro j r D hj _ h hb
    obtain ⟨i, rfl⟩ : ∃ i, j = i + 1 := ⟨j - 1, by simp at hj; omega⟩
    have e35 : r.1 130 35 = nI S.length := h.2.1.1
    simp only [fX11_unwinds_L0, fX11_unwinds_s0, e35]
    refine ⟨r, ?_, by simpa using h⟩
    match S, hS, h, hb, e35 with
    | [], _, _, _, _ => rw [if_pos (show nI ([] : List Int32).length ≤ 0 by decide)]; rfl
    | x :: S', hS, h, hb, e35 =>
      have hlen : (x :: S').length = S'.length + 1 := rfl
      have hb' : S'.length + 1 ≤ 120 := by simp at hb; omega
      rw [hlen] at e35 ⊢
      rw [if_neg (nI_nle (by omega) (by omega))]
      have ev : r.1 157 S'.length = x := h.2.1.2.1
      simp only [fX11_unwinds_s7, e35, nI_pred, inb_nI (show S'.length < 130 by omega) (by decide), nI_clamp (show S'.length < 2 ^ 31 by omega), if_true, ev, m_rank, Option.bind_some, fX11_unwinds_s21]
      have hx : rk x < least := hS
      rw [if_pos (nI_lt hx (by omega))]; rfl
  | cons x pend ih =>
    intro j r D hj hp h hb
    obtain ⟨i, rfl⟩ : ∃ i, j = i + 1 := ⟨j - 1, by simp at hj; omega⟩
    have hlen : ((x :: pend) ++ S).length = (pend ++ S).length + 1 := rfl
    have e35 : r.1 130 35 = nI ((pend ++ S).length + 1) := h.2.1.1
    have hb' : D.length + (pend ++ S).length + 1 ≤ 120 := by rw [hlen] at hb; omega
    simp only [fX11_unwinds_L0, fX11_unwinds_s0, e35]
    rw [if_neg (nI_nle (by omega) (by omega))]
    have ev : r.1 157 (pend ++ S).length = x := h.2.1.2.1
    have hx := hp x List.mem_cons_self
    have hx2 := rk_le x
    simp only [fX11_unwinds_s7, e35, nI_pred, inb_nI (show (pend ++ S).length < 130 by omega) (by decide), nI_clamp (show (pend ++ S).length < 2 ^ 31 by omega), if_true, ev, m_rank, Option.bind_some, fX11_unwinds_s21]
    rw [if_neg (nI_nlt hx (by omega))]
    simp only [fX11_unwinds_s25, e35, nI_pred, inb_nI (show (pend ++ S).length < 130 by omega) (by decide), nI_clamp (show (pend ++ S).length < 2 ^ 31 by omega), if_true, ev, m_rank, Option.bind_some, fX11_unwinds_s39]
    rw [if_neg (nI_nle (by omega) (by omega))]
    have hp1 : RS T R B Q (setI r 130 35 (nI (pend ++ S).length)) (pend ++ S) o D := RS.pop h
    have q35 : (setI r 130 35 (nI (pend ++ S).length)).1 130 35 = nI (pend ++ S).length := sI_at
    have q157 : (setI r 130 35 (nI (pend ++ S).length)).1 157 (pend ++ S).length = x := by rw [sI_o (by decide)]; exact ev
    obtain ⟨r2, g0, g1⟩ := m_puts n (20000 + x) _ (pend ++ S) o D hR hp1 (by omega)
    simp only [fX11_unwinds_s42, e35, nI_pred, fX11_unwinds_s52, q35, inb_nI (show (pend ++ S).length < 130 by omega) (by decide), nI_clamp (show (pend ++ S).length < 2 ^ 31 by omega), if_true, q157, g0, Option.bind_some, fX11_unwinds_s69]
    obtain ⟨r3, k0, k1⟩ := ih i r2 (D ++ [20000 + x]) (by simp at hj; omega) (fun y hy => hp y (List.mem_cons_of_mem _ hy)) g1 (by rw [List.length_append]; simp; simp at hb'; omega)
    refine ⟨r3, k0, ?_⟩
    rw [List.map_cons]
    rw [List.append_assoc] at k1
    exact k1
end
