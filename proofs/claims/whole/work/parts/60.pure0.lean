/-! ===== the pure layer: reading and writing of the memory; small methods ===== -/
theorem sI_row (st : St) (o k : Nat) (v : Int32) : (setI st o k v).1 o = upd (st.1 o) k v := if_pos rfl
theorem sI_o {st : St} {o k o' : Nat} {v : Int32} (h : o' ≠ o) : (setI st o k v).1 o' = st.1 o' := if_neg h
theorem sI_2 (st : St) (o k : Nat) (v : Int32) : (setI st o k v).2 = st.2 := rfl
theorem sJ_row (st : St) (o k : Nat) (v : Int64) : (setJ st o k v).2 o = vp_updL (st.2 o) k v := if_pos rfl
theorem sJ_o {st : St} {o k o' : Nat} {v : Int64} (h : o' ≠ o) : (setJ st o k v).2 o' = st.2 o' := if_neg h
theorem sJ_1 (st : St) (o k : Nat) (v : Int64) : (setJ st o k v).1 = st.1 := rfl
theorem sI_at {st : St} {o k : Nat} {v : Int32} : (setI st o k v).1 o k = v := by rw [sI_row]; exact pk_us
theorem sI_k {st : St} {o k k' : Nat} {v : Int32} (h : k' ≠ k) : (setI st o k v).1 o k' = st.1 o k' := by rw [sI_row]; exact pk_un h
theorem sJ_at {st : St} {o k : Nat} {v : Int64} : (setJ st o k v).2 o k = v := by rw [sJ_row]; exact pk_uLs
theorem sJ_k {st : St} {o k k' : Nat} {v : Int64} (h : k' ≠ k) : (setJ st o k v).2 o k' = st.2 o k' := by rw [sJ_row]; exact pk_uLn h
/-- a truth as an int -/
def b1 (c : Prop) [Decidable c] : Int32 := if c then 1 else 0
theorem b1_pos {c : Prop} [Decidable c] (h : c) : b1 c = 1 := if_pos h
theorem b1_neg {c : Prop} [Decidable c] (h : ¬ c) : b1 c = 0 := if_neg h
theorem b1_zero {c : Prop} [Decidable c] : b1 c = 0 ↔ ¬ c := by
  unfold b1
  by_cases h : c
  · rw [if_pos h]; exact ⟨fun e => absurd e (by decide), fun e => absurd h e⟩
  · rw [if_neg h]; exact ⟨fun _ => h, fun _ => rfl⟩
theorem b1_zb (c : Prop) [Decidable c] : zb (b1 c) = true := by
  unfold b1
  by_cases h : c
  · rw [if_pos h]; rfl
  · rw [if_neg h]; rfl
theorem b1_iff {c d : Prop} [Decidable c] [Decidable d] (h : c ↔ d) : b1 c = b1 d := by
  by_cases hc : c
  · rw [b1_pos hc, b1_pos (h.mp hc)]
  · rw [b1_neg hc, b1_neg (fun w => hc (h.mpr w))]
theorem le_of_nlt32 {a b : Int32} : ¬ a < b ↔ b ≤ a := by rw [Int32.lt_iff_toInt_lt, Int32.le_iff_toInt_le]; omega
theorem le_of_nlt64 {a b : Int64} : ¬ a < b ↔ b ≤ a := by rw [Int64.lt_iff_toInt_lt, Int64.le_iff_toInt_le]; omega
theorem pw (n : Nat) (a b c : Int32) (st : St) : fX10_within n a b c st = some (b1 (b ≤ a ∧ a ≤ c), st) := by
  simp only [fX10_within, fX10_within_s0, fX10_within_s5, fX10_within_s10, fX10_within_s14, fX10_within_s15]
  by_cases h1 : a < b
  · rw [if_pos h1, b1_neg (fun w => absurd h1 (le_of_nlt32.mpr w.1))]; rfl
  · rw [if_neg h1]
    by_cases h2 : c < a
    · rw [if_pos h2, b1_neg (fun w => absurd h2 (le_of_nlt32.mpr w.2))]; rfl
    · rw [if_neg h2, b1_pos ⟨le_of_nlt32.mp h1, le_of_nlt32.mp h2⟩]; rfl
theorem pin (n : Nat) (a b c : Int64) (st : St) : fX11_in n a b c st = some (b1 (b ≤ a ∧ a ≤ c), st) := by
  simp only [fX11_in, fX11_in_s0, fX11_in_s6, fX11_in_s13, fX11_in_s17, fX11_in_s18]
  by_cases h1 : a < b
  · rw [if_pos h1, b1_neg (fun w => absurd h1 (le_of_nlt64.mpr w.1))]; rfl
  · rw [if_neg h1]
    by_cases h2 : c < a
    · rw [if_pos h2, b1_neg (fun w => absurd h2 (le_of_nlt64.mpr w.2))]; rfl
    · rw [if_neg h2, b1_pos ⟨le_of_nlt64.mp h1, le_of_nlt64.mp h2⟩]; rfl
theorem i64_le {a b : Int32} : a.toInt64 ≤ b.toInt64 ↔ a ≤ b := by rw [Int64.le_iff_toInt_le, Int32.le_iff_toInt_le, Int32.toInt_toInt64, Int32.toInt_toInt64]
theorem i64_lt {a b : Int32} : a.toInt64 < b.toInt64 ↔ a < b := by rw [Int64.lt_iff_toInt_lt, Int32.lt_iff_toInt_lt, Int32.toInt_toInt64, Int32.toInt_toInt64]
theorem i64_eq {a b : Int32} : a.toInt64 = b.toInt64 ↔ a = b := by rw [← Int64.toInt_inj, ← Int32.toInt_inj, Int32.toInt_toInt64, Int32.toInt_toInt64]
/-- 'in' of ints, over int bounds -/
theorem pin32 (n : Nat) (a b c : Int32) (st : St) : fX11_in n a.toInt64 b.toInt64 c.toInt64 st = some (b1 (b ≤ a ∧ a ≤ c), st) := by
  rw [pin]
  congr 2
  exact b1_iff ⟨fun h => ⟨i64_le.mp h.1, i64_le.mp h.2⟩, fun h => ⟨i64_le.mpr h.1, i64_le.mpr h.2⟩⟩
theorem phas (n : Nat) (a : Int32) (st : St) : fX6_has n a st = some (b1 (0 ≤ a ∧ a < st.1 1 9), st) := by
  simp only [fX6_has, fX6_has_s0, fX6_has_s4, fX6_has_s12, fX6_has_s16, fX6_has_s17]
  by_cases h1 : a < 0
  · rw [if_pos h1, b1_neg (fun w => absurd h1 (le_of_nlt32.mpr w.1))]; rfl
  · rw [if_neg h1]
    by_cases h2 : st.1 1 9 ≤ a
    · rw [if_pos h2, b1_neg (fun w => absurd w.2 (le_of_nlt32.mpr h2))]; rfl
    · rw [if_neg h2, b1_pos ⟨le_of_nlt32.mp h1, Classical.byContradiction fun w => h2 (le_of_nlt32.mp w)⟩]; rfl
/-- the number of stages is one from 0 to 8 -/
def Sm (x : Int32) (N m : Nat) : Prop := x = nI N ∧ N ≤ m
theorem pstage (n : Nat) (a : Int32) (st : St) {N : Nat} (hN : st.1 130 0 = nI N) (h8 : N ≤ 8) : fX11_isStage n a st = some (b1 (0 ≤ a ∧ a < nI N), st) := by
  simp only [fX11_isStage, fX11_isStage_s0, fX11_isStage_s13]
  rw [show (0 : Int64) = (0 : Int32).toInt64 from by decide, pin32, hN]
  simp only [Option.bind_some, b1_zb, if_true]
  congr 2
  apply b1_iff
  have e : (nI N - 1).toInt = (N : Int) - 1 := pk_sub_toInt (a := N) (b := 1) (by omega) (by omega)
  have e2 : (nI N).toInt = (N : Int) := nI_toInt (by omega)
  rw [Int32.le_iff_toInt_le, Int32.le_iff_toInt_le, Int32.lt_iff_toInt_lt, e, e2]
  omega
