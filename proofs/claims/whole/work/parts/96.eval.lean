/-! ===== what a row of steps is worth, in both ===== -/
def appJ (c : Int32) (x y : Int64) : Int64 := if c = -8 then x + y else if c = -9 then x - y else if c = -10 then x * y else if c = -11 then (if y = 0 then 0 else x / y) else if c = -12 then (if y < x then y else x) else (if y < x then x else y)
def bndJ (v : Int64) : Int64 := if v ≤ 1000000000 then (if -1000000000 ≤ v then v else -1000000000) else 1000000000
theorem c_bound (n : Nat) (v : Int64) (st : St) : fX7_bound n v st = some (bndJ v, st) := by
  simp only [fX7_bound, fX7_bound_s0, bndJ]
  congr 2
  have e1 : (1000000000 : Int64).toInt = 1000000000 := rfl
  have e2 : (-1000000000 : Int64).toInt = -1000000000 := rfl
  by_cases h : v ≤ 1000000000
  · rw [if_pos h]
    by_cases h2 : v < 1000000000
    · rw [if_pos h2]
      by_cases h3 : -1000000000 ≤ v
      · rw [if_pos h3, if_neg (le_of_nlt64.mpr h3)]
      · rw [if_neg h3, if_pos (Classical.byContradiction fun w => h3 (le_of_nlt64.mp w))]
    · have : v = 1000000000 := by
        rw [← Int64.toInt_inj]
        rw [Int64.le_iff_toInt_le] at h
        rw [Int64.lt_iff_toInt_lt] at h2
        omega
      subst this; decide
  · rw [if_neg h, if_neg (c := v < 1000000000) (fun w => h (by rw [Int64.lt_iff_toInt_lt] at w; rw [Int64.le_iff_toInt_le]; omega))]
    decide
theorem m_kept0 (n : Nat) (v : Int64) (st : St) : fX11_kept0 n v st = some (bndJ v, st) := by
  simp only [fX11_kept0, fX11_kept0_s0, fX11_kept0_s8, fX11_kept0_s14, fX11_kept0_s22, fX11_kept0_s28, fX11_kept0_s29, bndJ]
  split <;> (try split) <;> rfl
theorem bnd_id {v : Int64} (h1 : -1000000000 ≤ v) (h2 : v ≤ 1000000000) : bndJ v = v := by unfold bndJ; rw [if_pos h2, if_pos h1]
theorem c_apply (n : Nat) (c : Int32) (x y : Int64) (st : St) : fX7_apply n c x y st = some (appJ c x y, st) := by
  simp only [fX7_apply, fX7_apply_s0, fX7_apply_s62, fX7_apply_s48, fX7_apply_s54, fX7_apply_s58, fX7_apply_s61, fX7_apply_s44, fX7_apply_s40, fX7_apply_s36, fX7_apply_s68, appJ]
  by_cases h12 : c = -12
  · subst h12; rfl
  rw [if_neg h12]
  by_cases h11 : c = -11
  · subst h11
    by_cases hy : y = 0
    · rw [if_pos rfl, if_pos hy]; rw [hy]; rfl
    · rw [if_pos rfl, if_neg hy, if_neg hy]
      rw [if_neg (by decide), if_neg (by decide), if_neg (by decide), if_pos rfl, if_neg hy]
  rw [if_neg h11]
  by_cases h10 : c = -10
  · subst h10; rfl
  rw [if_neg h10]
  by_cases h9 : c = -9
  · subst h9; rfl
  rw [if_neg h9]
  by_cases h8 : c = -8
  · subst h8; rfl
  rw [if_neg h8, if_neg h8, if_neg h9, if_neg h10, if_neg h11, if_neg h12]
/-- the deed of the reference that belongs to one of the class -/
def dedR (c m : Int32) : Prop := (c = -8 ∧ m = nI (20000 + 43)) ∨ (c = -9 ∧ m = nI (20000 + 45)) ∨ (c = -10 ∧ m = nI (20000 + 42)) ∨ (c = -11 ∧ m = nI (20000 + 47)) ∨ (c = -12 ∧ m = nI (20000 + 77)) ∨ (c = -13 ∧ m = nI (20000 + 88))
theorem l_lt_le {x y : Int64} (h : ¬ y < x) : x ≤ y := le_of_nlt64.mp h
theorem m_stepOf (n : Nat) {c m : Int32} (h : dedR c m) (x y : Int64) (st : St) : fX11_stepOf n (m - 20000) x y st = some (appJ c x y, st) := by
  rcases h with ⟨rfl, rfl⟩ | ⟨rfl, rfl⟩ | ⟨rfl, rfl⟩ | ⟨rfl, rfl⟩ | ⟨rfl, rfl⟩ | ⟨rfl, rfl⟩
  · rfl
  · rfl
  · rfl
  · show fX11_stepOf_s64 n x y st = some (if y = 0 then 0 else x / y, st)
    simp only [fX11_stepOf_s64, fX11_stepOf_s70, fX11_stepOf_s74, fX11_stepOf_s77]
    by_cases hy : y = 0
    · rw [if_pos hy, if_pos hy]
    · rw [if_neg hy, if_neg hy, if_neg hy]
  · show fX11_stepOf_s78 n x y st = some (if y < x then y else x, st)
    simp only [fX11_stepOf_s78, fX11_stepOf_s84, fX11_stepOf_s88, fX11_stepOf_s89]
    by_cases h : y < x
    · rw [if_pos h, if_pos (by rw [Int64.lt_iff_toInt_lt] at h; rw [Int64.le_iff_toInt_le]; omega)]
    · rw [if_neg h]
      by_cases h2 : y ≤ x
      · rw [if_pos h2]; congr 2; rw [← Int64.toInt_inj]; rw [Int64.lt_iff_toInt_lt] at h; rw [Int64.le_iff_toInt_le] at h2; omega
      · rw [if_neg h2]
  · show fX11_stepOf_s90 n x y st = some (if y < x then x else y, st)
    simp only [fX11_stepOf_s90, fX11_stepOf_s96, fX11_stepOf_s100, fX11_stepOf_s101]
    by_cases h : y < x
    · rw [if_pos h, if_neg (fun w => by rw [Int64.lt_iff_toInt_lt] at h; rw [Int64.le_iff_toInt_le] at w; omega)]
    · rw [if_neg h, if_pos (l_lt_le h)]
def pshJ (Fd : Nat → Int64) (c : Int32) : Int64 := if 0 ≤ c then c.toInt64 else Fd (-1 - c).toNatClampNeg
/-- the values behind the first k steps, the topmost first -/
def evL (Fd : Nat → Int64) (f : Nat → Int32) : Nat → List Int64
  | 0 => []
  | k + 1 => if -8 < f k then pshJ Fd (f k) :: evL Fd f k else (match evL Fd f k with
    | y :: x :: S => bndJ (appJ (f k) x y) :: S
    | S => S)
theorem deep_pre {f : Nat → Int32} : ∀ {len e : Nat}, deepOf f len = some e → ∀ k, k ≤ len → ∃ d, deepOf f k = some d := by
  intro len
  induction len with
  | zero => intro e h k hk; exact ⟨e, by rw [show k = 0 by omega]; exact h⟩
  | succ len ih =>
    intro e h k hk
    by_cases q : k = len + 1
    · exact ⟨e, by rw [q]; exact h⟩
    · rw [deepOf] at h
      cases hd : deepOf f len with
      | none => rw [hd] at h; exact absurd h (by simp)
      | some d => exact ih hd k (by omega)
theorem ev_len (Fd : Nat → Int64) (f : Nat → Int32) : ∀ k d, deepOf f k = some d → (evL Fd f k).length = d ∧ d ≤ 32 := by
  intro k
  induction k with
  | zero => intro d h; rw [deepOf] at h; cases h; exact ⟨rfl, by decide⟩
  | succ k ih =>
    intro d h
    rw [deepOf] at h
    cases hd : deepOf f k with
    | none => rw [hd] at h; exact absurd h (by simp)
    | some d0 =>
      rw [hd] at h
      simp only at h
      obtain ⟨i1, i2⟩ := ih d0 hd
      rw [evL]
      by_cases q : -8 < f k
      · rw [if_pos q] at h ⊢
        by_cases r : d0 < 32
        · rw [if_pos r] at h; cases h; exact ⟨by rw [List.length_cons, i1], by omega⟩
        · rw [if_neg r] at h; exact absurd h (by simp)
      · rw [if_neg q] at h ⊢
        by_cases r : 2 ≤ d0
        · rw [if_pos r] at h; cases h
          match hS : evL Fd f k, i1 with
          | [], i1 => simp at i1; omega
          | [_], i1 => simp at i1; omega
          | y :: x :: S, i1 => simp at i1 ⊢; omega
        · rw [if_neg r] at h; exact absurd h (by simp)
/-- a stack in a row -/
def StkR (row : Nat → Int64) : List Int64 → Prop
  | [] => True
  | v :: S => row S.length = v ∧ StkR row S
theorem StkR.same {row row' : Nat → Int64} : ∀ {S : List Int64}, (∀ i, i < S.length → row' i = row i) → StkR row S → StkR row' S := by
  intro S
  induction S with
  | nil => intro _ _; trivial
  | cons v S ih => intro h hs; exact ⟨by rw [h S.length (by simp)]; exact hs.1, ih (fun i hi => h i (by rw [List.length_cons]; omega)) hs.2⟩
