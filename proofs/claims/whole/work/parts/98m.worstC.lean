/-! ===== worst: the class ===== -/
theorem rI_o {st : St} {o o' : Nat} {f : Nat → Int32} (h : o' ≠ o) : (rowI st o f).1 o' = st.1 o' := if_neg h
theorem rI_at {st : St} {o : Nat} {f : Nat → Int32} : (rowI st o f).1 o = f := if_pos rfl
theorem rI_2 {st : St} {o : Nat} {f : Nat → Int32} : (rowI st o f).2 = st.2 := rfl
theorem rJ_o {st : St} {o o' : Nat} {f : Nat → Int64} (h : o' ≠ o) : (rowJ st o f).2 o' = st.2 o' := if_neg h
theorem rJ_at {st : St} {o : Nat} {f : Nat → Int64} : (rowJ st o f).2 o = f := if_pos rfl
theorem rJ_1 {st : St} {o : Nat} {f : Nat → Int64} : (rowJ st o f).1 = st.1 := rfl
theorem cp0 {α : Type} (f g : Nat → α) {len k : Nat} (h : k < len) : va_cpy f g 0 0 len k = f k := by rw [pk_cpy_in (by omega) (by omega)]; congr 1; omega
theorem c_copy (n b b1 : Nat) (hb : b + 10 < b1 ∨ b1 + 10 < b) (st : St) : ∃ st1, fX1_copy n b b1 st = some ((), st1) ∧ (∀ k, k < 8 → st1.1 (b + 1) k = st.1 (b1 + 1) k) ∧ (∀ k, k < 48 → st1.1 (b + 2) k = st.1 (b1 + 2) k) ∧ (∀ k, k < 8 → st1.1 (b + 3) k = st.1 (b1 + 3) k) ∧ (∀ k, k < 8 → st1.1 (b + 4) k = st.1 (b1 + 4) k) ∧ (∀ k, k < 8 → st1.1 (b + 5) k = st.1 (b1 + 5) k) ∧ (∀ k, k < 8 → st1.1 (b + 6) k = st.1 (b1 + 6) k) ∧ (∀ k, k < 8 → st1.1 (b + 7) k = st.1 (b1 + 7) k) ∧ (∀ k, k < 32 → st1.1 (b + 8) k = st.1 (b1 + 8) k) ∧ (∀ k, k < 32 → st1.1 (b + 9) k = st.1 (b1 + 9) k) ∧ (∀ k, k < 8 → st1.2 (b + 10) k = st.2 (b1 + 10) k) ∧ st1.1 b 10 = st.1 b1 10 ∧ st1.2 b 11 = st.2 b1 11 ∧ st1.2 b 12 = st.2 b1 12 := by
  have h8 : cpok 0 0 8 8 8 = true := rfl
  have h48 : cpok 0 0 48 48 48 = true := rfl
  have h32 : cpok 0 0 32 32 32 = true := rfl
  have t0 : (0 : Int32).toNatClampNeg = 0 := rfl
  have t8 : (8 : Int32).toNatClampNeg = 8 := rfl
  have t48 : (48 : Int32).toNatClampNeg = 48 := rfl
  have t32 : (32 : Int32).toNatClampNeg = 32 := rfl
  simp only [fX1_copy, fX1_copy_s0, fX1_copy_s18, fX1_copy_s36, fX1_copy_s54, fX1_copy_s72, fX1_copy_s90, fX1_copy_s108, fX1_copy_s126, fX1_copy_s144, fX1_copy_s162, fX1_copy_s180, fX1_copy_s188, fX1_copy_s196, fX1_copy_s204, h8, h48, h32, t0, t8, t48, t32, if_true]
  refine ⟨_, rfl, ?_, ?_, ?_, ?_, ?_, ?_, ?_, ?_, ?_, ?_, ?_, ?_, ?_⟩
  all_goals simp (disch := omega) only [sI_o, sI_k, sI_at, sI_2, sJ_o, sJ_k, sJ_at, sJ_1, rI_o, rI_at, rI_2, rJ_o, rJ_at, rJ_1, cp0, implies_true]
  all_goals (intro k hk; rw [cp0 _ _ hk])
theorem cfl_copy {st st1 : St} {b b1 : Nat} {D : WD} {md sd : Nat} {cst : Nat → Int64} (hF : CFl st b1 D md sd cst) (h : (∀ k, k < 8 → st1.1 (b + 1) k = st.1 (b1 + 1) k) ∧ (∀ k, k < 48 → st1.1 (b + 2) k = st.1 (b1 + 2) k) ∧ (∀ k, k < 8 → st1.1 (b + 3) k = st.1 (b1 + 3) k) ∧ (∀ k, k < 8 → st1.1 (b + 4) k = st.1 (b1 + 4) k) ∧ (∀ k, k < 8 → st1.1 (b + 5) k = st.1 (b1 + 5) k) ∧ (∀ k, k < 8 → st1.1 (b + 6) k = st.1 (b1 + 6) k) ∧ (∀ k, k < 8 → st1.1 (b + 7) k = st.1 (b1 + 7) k) ∧ (∀ k, k < 32 → st1.1 (b + 8) k = st.1 (b1 + 8) k) ∧ (∀ k, k < 32 → st1.1 (b + 9) k = st.1 (b1 + 9) k) ∧ (∀ k, k < 8 → st1.2 (b + 10) k = st.2 (b1 + 10) k) ∧ st1.1 b 10 = st.1 b1 10 ∧ st1.2 b 11 = st.2 b1 11 ∧ st1.2 b 12 = st.2 b1 12) : CFl st1 b D md sd cst := by
  obtain ⟨h1, h2, h3, h4, h5, h6, h7, h8, h9, h10, hw, h11, h12⟩ := h
  obtain ⟨⟨f0, fm, fd⟩, ⟨g1, g2, g3⟩, f4, f5, f6, f7, f89, fz, fc⟩ := hF
  refine ⟨⟨by rw [hw]; exact f0, by rw [h11]; exact fm, by rw [h12]; exact fd⟩, ⟨fun s hs => by rw [h1 s hs]; exact g1 s hs, fun s i hs hi => by rw [h2 _ (by omega)]; exact g2 s i hs hi, fun s hs => by rw [h3 s hs]; exact g3 s hs⟩, fun s hs => by rw [h4 s hs]; exact f4 s hs, fun s hs => by rw [h5 s hs]; exact f5 s hs, fun s hs => by rw [h6 s hs]; exact f6 s hs, fun s hs => by rw [h7 s hs]; exact f7 s hs, fun s u hs hu huw => by rw [h8 _ (by omega), h9 _ (by omega)]; exact f89 s u hs hu huw, fun s r hs hr hr4 => by rw [h8 _ (by omega), h9 _ (by omega)]; exact fz s r hs hr hr4, fun s hs => by rw [h10 s hs]; exact fc s hs⟩
/-! rows of demands -/
abbrev hb (m row i : Nat) : Prop := ((nI row >>> (((nI m - 1) - nI i) &&& 31)) &&& 1) = (1 : Int32)
def dvR (m lo hi row i : Nat) : Nat := if hb m row i then hi else lo
def dmR (s m lo hi row i x : Nat) : Nat := if x = s then dvR m lo hi row i else 0
def setDm (D : WD) (dm : Nat → Nat) : WD := (D.1, D.2.1, dm, D.2.2.2)
noncomputable def rwD (D : WD) (E : PD) (s m lo hi row : Nat) : Nat → WD
  | 0 => setDm D (dmR s m lo hi row 0)
  | i + 1 => nxD (rwD D E s m lo hi row i) E (dmR s m lo hi row (i + 1))
noncomputable def rwM (D : WD) (E : PD) (s m lo hi row md : Nat) : Nat → Nat
  | 0 => md
  | i + 1 => rwM D E s m lo hi row md i + oW (rwD D E s m lo hi row i) E 0
noncomputable def rwS (D : WD) (E : PD) (s m lo hi row sd : Nat) : Nat → Nat
  | 0 => sd
  | i + 1 => rwS D E s m lo hi row sd i + sdW (rwD D E s m lo hi row i)
noncomputable def rwC (D : WD) (E : PD) (s m lo hi row : Nat) (cst : Nat → Int64) : Nat → Nat → Int64
  | 0 => cst
  | i + 1 => cstW (rwD D E s m lo hi row i) E (rwC D E s m lo hi row cst i)
theorem dvR_le {m lo hi row i : Nat} (h1 : lo ≤ 999) (h2 : hi ≤ 999) : dvR m lo hi row i ≤ 999 := by unfold dvR; split <;> omega
theorem dmR_le {s m lo hi row i x : Nat} (h1 : lo ≤ 999) (h2 : hi ≤ 999) : dmR s m lo hi row i x ≤ 999 := by
  unfold dmR
  split
  · exact dvR_le h1 h2
  · omega
theorem rw_dm (D : WD) (E : PD) (s m lo hi row : Nat) : ∀ i, dDm (rwD D E s m lo hi row i) = dmR s m lo hi row i ∧ dWk (rwD D E s m lo hi row i) = dWk D + i ∧ dN (rwD D E s m lo hi row i) = dN D ∧ dKd (rwD D E s m lo hi row i) = dKd D := by
  intro i
  induction i with
  | zero => exact ⟨rfl, rfl, rfl, rfl⟩
  | succ i ih =>
    obtain ⟨h1, h2, h3, h4⟩ := ih
    refine ⟨rfl, ?_, h3, h4⟩
    show dWk (rwD D E s m lo hi row i) + 1 = _
    omega
theorem rw_pw {D : WD} {E : PD} {R fs md sd : Nat} {cst : Nat → Int64} (s m lo hi row : Nat) (h : PW D E R fs md sd cst) (h1 : lo ≤ 999) (h2 : hi ≤ 999) : ∀ i, dWk D + i ≤ 400 → PW (rwD D E s m lo hi row i) E R fs (rwM D E s m lo hi row md i) (rwS D E s m lo hi row sd i) (rwC D E s m lo hi row cst i) := by
  intro i
  induction i with
  | zero => intro _; exact h
  | succ i ih =>
    intro hk
    obtain ⟨g1, g2, g3, g4⟩ := rw_dm D E s m lo hi row i
    exact pw_nx (ih (by omega)) (by omega) (fun x hx => by rw [g1]; exact dmR_le h1 h2) _
theorem setDm_e (D : WD) : D = setDm (setDm D (fun _ => 0)) (dDm D) := rfl
theorem setDm_2 (D : WD) (a c : Nat → Nat) : setDm (setDm D a) c = setDm D c := rfl
theorem setDm_n (D : WD) (E : PD) (a : Nat → Nat) : setDm (nxD D E a) (fun _ => 0) = nxD D E (fun _ => 0) := rfl
/-- rows that are alike at first look alike at first -/
theorem rw_pre (D : WD) (E : PD) (s m lo hi row row' md sd : Nat) (cst : Nat → Int64) (k : Nat) (hk : ∀ i, i < k → (hb m row i ↔ hb m row' i)) : ∀ i, i ≤ k → setDm (rwD D E s m lo hi row i) (fun _ => 0) = setDm (rwD D E s m lo hi row' i) (fun _ => 0) ∧ rwM D E s m lo hi row md i = rwM D E s m lo hi row' md i ∧ rwS D E s m lo hi row sd i = rwS D E s m lo hi row' sd i ∧ rwC D E s m lo hi row cst i = rwC D E s m lo hi row' cst i := by
  have dv : ∀ i, i < k → dmR s m lo hi row i = dmR s m lo hi row' i := fun i hik => by
    funext x
    unfold dmR dvR
    simp only [hk i hik]
  have full : ∀ i, i < k → setDm (rwD D E s m lo hi row i) (fun _ => 0) = setDm (rwD D E s m lo hi row' i) (fun _ => 0) → rwD D E s m lo hi row i = rwD D E s m lo hi row' i := fun i hik h => by
    rw [setDm_e (rwD D E s m lo hi row i), setDm_e (rwD D E s m lo hi row' i), h, (rw_dm D E s m lo hi row i).1, (rw_dm D E s m lo hi row' i).1, dv i hik]
  intro i
  induction i with
  | zero => intro _; exact ⟨by rw [rwD, rwD, setDm_2, setDm_2], rfl, rfl, rfl⟩
  | succ i ih =>
    intro hi'
    obtain ⟨h1, h2, h3, h4⟩ := ih (by omega)
    have hf := full i (by omega) h1
    refine ⟨?_, ?_, ?_, ?_⟩
    · rw [rwD, rwD, hf, setDm_n (rwD D E s m lo hi row' i) E (dmR s m lo hi row (i + 1)), ← setDm_n (rwD D E s m lo hi row' i) E (dmR s m lo hi row' (i + 1))]
    · rw [rwM, rwM, h2, hf]
    · rw [rwS, rwS, h3, hf]
    · rw [rwC, rwC, h4, hf]
/-! frames of what looks ahead -/
def LIw : List (Nat × Option Nat) := [(18, none), (19, none), (20, none), (51, none)] ++ (List.range 66).map (fun i => (64 + i, none))
def LJw : List (Nat × Option Nat) := [(14, none)] ++ (List.range 66).map (fun i => (64 + i, none))
theorem inLI {o : Nat} (h : o = 18 ∨ o = 19 ∨ o = 20 ∨ o = 51 ∨ (64 ≤ o ∧ o < 130)) : (o, (none : Option Nat)) ∈ LIw := by
  unfold LIw
  rw [List.mem_append]
  rcases h with h | h | h | h | ⟨h, h2⟩
  · subst h; exact Or.inl (by simp)
  · subst h; exact Or.inl (by simp)
  · subst h; exact Or.inl (by simp)
  · subst h; exact Or.inl (by simp)
  · exact Or.inr (List.mem_map.mpr ⟨o - 64, List.mem_range.mpr (by omega), by rw [show 64 + (o - 64) = o by omega]⟩)
theorem inLJ {o : Nat} (h : o = 14 ∨ (64 ≤ o ∧ o < 130)) : (o, (none : Option Nat)) ∈ LJw := by
  unfold LJw
  rw [List.mem_append]
  rcases h with h | ⟨h, h2⟩
  · subst h; exact Or.inl (by simp)
  · exact Or.inr (List.mem_map.mpr ⟨o - 64, List.mem_range.mpr (by omega), by rw [show 64 + (o - 64) = o by omega]⟩)
theorem ofLI {o : Nat} {x : Option Nat} (h : (o, x) ∈ LIw) : o = 18 ∨ o = 19 ∨ o = 20 ∨ o = 51 ∨ (64 ≤ o ∧ o < 130) := by
  unfold LIw at h
  rw [List.mem_append] at h
  rcases h with h | h
  · simp at h; omega
  · obtain ⟨i, hi, e⟩ := List.mem_map.mp h
    have h1 := List.mem_range.mp hi
    have h2 : 64 + i = o := congrArg Prod.fst e
    omega
theorem ofLJ {o : Nat} {x : Option Nat} (h : (o, x) ∈ LJw) : o = 14 ∨ (64 ≤ o ∧ o < 130) := by
  unfold LJw at h
  rw [List.mem_append] at h
  rcases h with h | h
  · simp at h; omega
  · obtain ⟨i, hi, e⟩ := List.mem_map.mp h
    have h1 := List.mem_range.mp hi
    have h2 : 64 + i = o := congrArg Prod.fst e
    omega
theorem pass_out {n b b4 : Nat} {st : St} {q : Int32 × St} (h : fX1_pass n b b4 st = some q) : (∀ o, o ≠ 18 → o ≠ 19 → o ≠ 20 → (o < b ∨ b + 10 < o) → q.2.1 o = st.1 o) ∧ ∀ o, o ≠ 14 → (o < b ∨ b + 10 < o) → q.2.2 o = st.2 o := by
  have z := zX1_pass n b b4 st q h
  refine ⟨fun o h1 h2 h3 h4 => funext fun k => z.1 o k ?_, fun o h1 h4 => funext fun k => z.2 o k ?_⟩
  · unfold wOK uIX1_pass; simp; omega
  · unfold wOK uJX1_pass; simp; omega
theorem copy_out {n b b1 : Nat} {st : St} {q : Unit × St} (h : fX1_copy n b b1 st = some q) : (∀ o, (o < b ∨ b + 10 < o) → q.2.1 o = st.1 o) ∧ ∀ o, (o < b ∨ b + 10 < o) → q.2.2 o = st.2 o := by
  have z := zX1_copy n b b1 st q h
  refine ⟨fun o h4 => funext fun k => z.1 o k ?_, fun o h4 => funext fun k => z.2 o k ?_⟩
  · unfold wOK uIX1_copy; simp; omega
  · unfold wOK uJX1_copy; simp; omega
theorem sameW {st st1 : St} (h1 : ∀ o, o ≠ 18 → o ≠ 19 → o ≠ 20 → o ≠ 51 → (o < 64 ∨ 130 ≤ o) → st1.1 o = st.1 o) (h2 : ∀ o, o ≠ 14 → (o < 64 ∨ 130 ≤ o) → st1.2 o = st.2 o) : Same LIw LJw st st1 := by
  refine ⟨fun o k w => ?_, fun o k w => ?_⟩
  · have : ¬ (o = 18 ∨ o = 19 ∨ o = 20 ∨ o = 51 ∨ (64 ≤ o ∧ o < 130)) := fun q => w (Or.inl (inLI q))
    rw [h1 o (by omega) (by omega) (by omega) (by omega) (by omega)]
  · have : ¬ (o = 14 ∨ (64 ≤ o ∧ o < 130)) := fun q => w (Or.inl (inLJ q))
    rw [h2 o (by omega) (by omega)]
theorem sameW' {st st1 : St} (h : Same LIw LJw st st1) : (∀ o, o ≠ 18 → o ≠ 19 → o ≠ 20 → o ≠ 51 → (o < 64 ∨ 130 ≤ o) → st1.1 o = st.1 o) ∧ ∀ o, o ≠ 14 → (o < 64 ∨ 130 ≤ o) → st1.2 o = st.2 o := by
  refine ⟨fun o a1 a2 a3 a4 a5 => funext fun k => h.1 o k ?_, fun o a1 a2 => funext fun k => h.2 o k ?_⟩
  · intro w; rcases w with w | w <;> (have := ofLI w; omega)
  · intro w; rcases w with w | w <;> (have := ofLJ w; omega)
/-- the flows up to the i-th week ahead are as the row has them -/
def Ahd (st : St) (D : WD) (E : PD) (s m lo hi row md sd : Nat) (cst : Nat → Int64) (k : Nat) : Prop := ∀ i, i ≤ k → CFl st (53 + 11 * i) (rwD D E s m lo hi row i) (rwM D E s m lo hi row md i) (rwS D E s m lo hi row sd i) (rwC D E s m lo hi row cst i)
def bcI (v : Int32) : Int32 := ((fJ6_bitCount_0f7a4 0 v ((fun _ _ => 0), (fun _ _ => 0))).map (fun q => q.1)).getD 0
theorem bc_eq (n : Nat) (v : Int32) (st : St) : fJ6_bitCount_0f7a4 n v st = some (bcI v, st) := rfl
def smI (m row : Nat) : Int32 := if 0 < nI m - bcI (nI row ^^^ (nI row - 1)) then nI m - bcI (nI row ^^^ (nI row - 1)) else 0
def smN (m row : Nat) : Nat := (smI m row).toNatClampNeg
theorem sm_ok : ∀ m, m < 7 → ∀ row, row < 64 → smI m row = nI (smN m row) ∧ smN m row ≤ m ∧ (row = 0 → smN m row = 0) ∧ ∀ i, i < 6 → i < smN m row → (hb m row i ↔ hb m (row - 1) i) := by decide +kernel
theorem sh_ok : ∀ m, m < 7 → (1 : Int32) <<< (nI m &&& 31) = nI (2 ^ m) := by decide +kernel
theorem c_high (n m row i : Nat) (st : St) : fX10_isHigh n (nI row) (nI i) (nI m) st = some (if hb m row i then 1 else 0, st) := by
  simp only [fX10_isHigh, fX10_isHigh_s0]
  by_cases q : hb m row i
  · rw [if_pos q, if_pos q]; rfl
  · rw [if_neg q, if_neg q]; rfl
theorem cfl_dm {st : St} {b : Nat} {D : WD} {md sd : Nat} {cst : Nat → Int64} (dm : Nat → Nat) : CFl st b D md sd cst ↔ CFl st b (setDm D dm) md sd cst := Iff.rfl
section
variable {D : WD} {E : PD} {R fs md sd : Nat} {cst : Nat → Int64}
theorem c_look20 (n s m lo hi row : Nat) (hn : 200 ≤ n) (hW : PW D E R fs md sd cst) (h1 : lo ≤ 999) (h2 : hi ≤ 999) (hw : dWk D + m ≤ 400) (hm : m ≤ 6) (hs : s < dN D) : ∀ (j i : Nat) (st : St), i ≤ m → m - i < j → CP st D → CQ st E R → (∀ x, x < 8 → x ≠ s → st.1 51 x = 0) → Ahd st D E s m lo hi row md sd cst i → ∃ st1, fX10_lookAhead_L20 n j (nI s) (nI row) (nI m) (nI lo) (nI hi) (nI i) st = some ((), st1) ∧ Same LIw LJw st st1 ∧ (∀ x, x < 8 → st1.1 51 x = 0) ∧ Ahd st1 D E s m lo hi row md sd cst m := by
  have hN := hW.1.1.1
  intro j
  induction j with
  | zero => intro i st _ hj; omega
  | succ j ih =>
    intro i st hi' hj hC hQ h51 hA
    simp only [fX10_lookAhead_L20, fX10_lookAhead_s20]
    by_cases q : i = m
    · subst q
      rw [if_pos (Int32.le_refl _)]
      simp only [fX10_lookAhead_s103, inb_nI (show s < 8 by omega) (by decide), nI_clamp (show s < 2 ^ 31 by omega), if_true, fX10_lookAhead_s110]
      refine ⟨_, rfl, sameW (fun o a1 a2 a3 a4 a5 => by rw [sI_o a4]) (fun o _ _ => rfl), fun x hx => ?_, fun t ht => (hA t ht).k (fun o g1 g2 => by rw [sI_o (by omega)]) (fun o g1 g2 => rfl)⟩
      by_cases z : x = s
      · subst z; rw [sI_at]
      · rw [sI_k z]; exact h51 x hx z
    · rw [if_neg (nI_ge (show i < m by omega) (by omega))]
      have ci : (nI i).toNatClampNeg = i := nI_clamp (by omega)
      have ci1 : (nI (i + 1)).toNatClampNeg = i + 1 := nI_clamp (by omega)
      obtain ⟨s1, a0, a1⟩ := c_copy n (53 + 11 * (i + 1)) (53 + 11 * i) (by omega) st
      have F1 := cfl_copy (hA i (Nat.le_refl _)) a1
      obtain ⟨o1, o2⟩ := copy_out a0
      simp only [fX10_lookAhead_s26, nI_1, inb_nI (show i + 1 < 7 by omega) (by decide), inb_nI (show i < 7 by omega) (by decide), ci, ci1, if_true, a0, Option.bind_some, fX10_lookAhead_s45, c_high]
      have e45 : fX10_lookAhead_s57 n (fX10_lookAhead_L20 n j) (nI s) (nI row) (nI m) (nI lo) (nI hi) (nI i) (nI s) (if hb m row i then 1 else 0) s1 = fX10_lookAhead_s68 n (fX10_lookAhead_L20 n j) (nI s) (nI row) (nI m) (nI lo) (nI hi) (nI i) (setI s1 51 s (nI (dvR m lo hi row i))) := by
        simp only [fX10_lookAhead_s57]
        by_cases z : hb m row i
        · rw [if_pos z, if_neg (show ¬ (1 : Int32) = 0 by decide)]
          simp only [fX10_lookAhead_s60, fX10_lookAhead_s67, inb_nI (show s < 8 by omega) (by decide), nI_clamp (show s < 2 ^ 31 by omega), if_true, dvR, if_pos z]
        · rw [if_neg z, if_pos rfl]
          simp only [fX10_lookAhead_s65, fX10_lookAhead_s67, inb_nI (show s < 8 by omega) (by decide), nI_clamp (show s < 2 ^ 31 by omega), if_true, dvR, if_neg z]
      rw [e45]
      obtain ⟨g1, g2, g3, g4⟩ := rw_dm D E s m lo hi row i
      have pwi := rw_pw s m lo hi row hW h1 h2 i (by omega)
      have pfi := pw_pf pwi (by omega) (fun x hx => by rw [g1]; exact dmR_le h1 h2)
      have cpi : CP (setI s1 51 s (nI (dvR m lo hi row i))) (rwD D E s m lo hi row i) := by
        have : CP (setI s1 51 s (nI (dvR m lo hi row i))) D := hC.k (fun o ho => by rw [sI_o (by omega), o1 o (by omega)])
        have hcore : ∀ i, CP (setI s1 51 s (nI (dvR m lo hi row i))) D → ∀ t, CP (setI s1 51 s (nI (dvR m lo hi row i))) (rwD D E s m lo hi row t) := by
          intro i h t
          induction t with
          | zero => exact h
          | succ t iht => exact iht
        exact hcore i this i
      have cqi : CQ (setI s1 51 s (nI (dvR m lo hi row i))) E R := hQ.k (fun o ho => by rw [sI_o (by omega), o1 o (by omega)])
      have F1' : CFl (setI s1 51 s (nI (dvR m lo hi row i))) (53 + 11 * (i + 1)) (rwD D E s m lo hi row i) (rwM D E s m lo hi row md i) (rwS D E s m lo hi row sd i) (rwC D E s m lo hi row cst i) := F1.k (fun o g1 g2 => by rw [sI_o (by omega)]) (fun o g1 g2 => rfl)
      obtain ⟨s2, b0, b1⟩ := c_passF n (53 + 11 * (i + 1)) 51 R _ _ hn (rwD D E s m lo hi row i) E (by omega) (by decide) pfi pwi.2.2.1 _ (dmR s m lo hi row (i + 1)) _ cpi cqi (fun x hx _ => by
        rw [g1]
        unfold dmR
        by_cases z : x = s
        · subst z; rw [sI_at, if_pos rfl]
        · rw [sI_k z, if_neg z, o1 51 (by omega)]; exact h51 x (by omega) z) F1'
      obtain ⟨p1, p2⟩ := pass_out b0
      simp only [fX10_lookAhead_s68, nI_1, inb_nI (show i + 1 < 7 by omega) (by decide), ci1, if_true, b0, Option.bind_some, fX10_lookAhead_s96]
      have frI : ∀ o, o ≠ 18 → o ≠ 19 → o ≠ 20 → o ≠ 51 → (o < 53 + 11 * (i + 1) ∨ 53 + 11 * (i + 1) + 10 < o) → s2.1 o = st.1 o := fun o a1 a2 a3 a4 a5 => by rw [p1 o a1 a2 a3 a5, sI_o a4, o1 o a5]
      have frJ : ∀ o, o ≠ 14 → (o < 53 + 11 * (i + 1) ∨ 53 + 11 * (i + 1) + 10 < o) → s2.2 o = st.2 o := fun o a1 a5 => by rw [p2 o a1 a5, sI_2, o2 o a5]
      have S12 : Same LIw LJw st s2 := sameW (fun o a1 a2 a3 a4 a5 => frI o a1 a2 a3 a4 (by omega)) (fun o a1 a5 => frJ o a1 (by omega))
      obtain ⟨s3, c0, c1, c2, c3⟩ := ih (i + 1) s2 (by omega) (by omega) (hC.k (fun o ho => frI o (by omega) (by omega) (by omega) (by omega) (by omega))) (hQ.k (fun o ho => frI o (by omega) (by omega) (by omega) (by omega) (by omega))) (fun x hx hxs => by rw [p1 51 (by decide) (by decide) (by decide) (by omega), sI_k hxs, o1 51 (by omega)]; exact h51 x hx hxs) (fun t ht => by
        by_cases z : t = i + 1
        · subst z; exact b1
        · exact (hA t (by omega)).k (fun o g1 g2 => frI o (by omega) (by omega) (by omega) (by omega) (by omega)) (fun o g1 g2 => frJ o (by omega) (by omega)))
      exact ⟨s3, c0, S12.trans c1, c2, c3⟩
theorem c_look (n s m lo hi row : Nat) (hn : 200 ≤ n) (hW : PW D E R fs md sd cst) (h1 : lo ≤ 999) (h2 : hi ≤ 999) (hw : dWk D + m ≤ 400) (hm : m ≤ 6) (hs : s < dN D) (hr : row < 2 ^ m) (st : St) (hC : CP st D) (hQ : CQ st E R) (h51 : ∀ x, x < 8 → st.1 51 x = 0) (hF : CFl st 53 D md sd cst) (hA : row = 0 ∨ Ahd st D E s m lo hi (row - 1) md sd cst m) : ∃ st1, fX10_lookAhead n (nI s) (nI row) (nI m) (nI lo) (nI hi) st = some ((), st1) ∧ Same LIw LJw st st1 ∧ (∀ x, x < 8 → st1.1 51 x = 0) ∧ Ahd st1 D E s m lo hi row md sd cst m := by
  have h64 : (2 : Nat) ^ m ≤ 64 := by
    have : (2 : Nat) ^ m ≤ 2 ^ 6 := Nat.pow_le_pow_right (by decide) hm
    omega
  obtain ⟨e1, e2, e3, e4⟩ := sm_ok m (by omega) row (by omega)
  simp only [fX10_lookAhead, fX10_lookAhead_s0, bc_eq, Option.bind_some, fX10_lookAhead_s10]
  have e1' : (if 0 < nI m - bcI (nI row ^^^ (nI row - 1)) then nI m - bcI (nI row ^^^ (nI row - 1)) else 0) = nI (smN m row) := e1
  rw [e1']
  refine c_look20 n s m lo hi row hn hW h1 h2 hw hm hs n (smN m row) st e2 (by omega) hC hQ (fun x hx _ => h51 x hx) (fun t ht => ?_)
  by_cases z : t = 0
  · subst z; exact hF
  · have hA' := hA.resolve_left (fun r0 => by have := e3 r0; omega)
    obtain ⟨q1, q2, q3, q4⟩ := rw_pre D E s m lo hi row (row - 1) md sd cst (smN m row) (fun i hi' => e4 i (by omega) hi') t ht
    have := hA' t (by omega)
    rw [cfl_dm (fun _ => 0), ← q1, ← q2, ← q3, ← q4, ← cfl_dm (fun _ => 0)] at this
    exact this
end
