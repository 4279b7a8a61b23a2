/-! ===== allotments: sums, and claims of 0 left out ===== -/
theorem num_sum (s : Nat) (c : Nat → Nat) : ∀ k, sumN (fun i => if c i < s - sumN c i then c i else s - sumN c i) k = if sumN c k ≤ s then sumN c k else s := by
  intro k
  induction k with
  | zero => show 0 = if 0 ≤ s then 0 else s; rw [if_pos (Nat.zero_le _)]
  | succ k ih =>
    rw [sumN, ih, sumN]
    by_cases q : sumN c k ≤ s
    · rw [if_pos q]; split <;> split <;> omega
    · rw [if_neg q, if_neg (show ¬ sumN c k + c k ≤ s by omega)]; split <;> omega
theorem sumN_leS {f g : Nat → Nat} : ∀ k, (∀ i, i < k → f i ≤ g i) → sumN f k ≤ sumN g k := by
  intro k
  induction k with
  | zero => intro _; exact Nat.le_refl _
  | succ k ih => intro h; rw [sumN, sumN]; have := ih (fun i hi => h i (by omega)); have := h k (by omega); omega
theorem lev_ex {c : Nat → Nat} {m s : Nat} (h : s < sumN c m) : ∃ T, lvT c m s T := by
  have big : ∃ T, s < sumN (cutN c (T + 1)) m := by
    refine ⟨sumN c m, ?_⟩
    have : sumN (cutN c (sumN c m + 1)) m = sumN c m := sumN_congr m (fun i hi => by
      unfold cutN
      have := sumN_le (f := c) m i hi
      rw [if_pos (by omega)])
    omega
  obtain ⟨T, hT, hm⟩ := pk_least _ big
  refine ⟨T, ?_, hT⟩
  by_cases z : T = 0
  · subst z
    have : sumN (cutN c 0) m = sumN (fun _ => 0) m := sumN_congr m (fun i _ => by unfold cutN; rw [if_neg (by omega)])
    have z0 : ∀ k, sumN (fun _ => 0) k = 0 := by
      intro k
      induction k with
      | zero => rfl
      | succ k ih => rw [sumN, ih]
    rw [this, z0]; omega
  · have := hm (T - 1) (by omega)
    rw [show T - 1 + 1 = T by omega] at this
    omega
theorem sh_sum (how s : Nat) (c : Nat → Nat) (m : Nat) : sumN (shN how s c m) m ≤ s := by
  by_cases q : sumN c m ≤ s
  · rw [sumN_congr (g := c) m (fun i _ => by unfold shN; rw [if_pos q])]; exact q
  · by_cases h0 : how = 0
    · rw [sumN_congr (g := fun i => if c i < s - sumN c i then c i else s - sumN c i) m (fun i _ => by unfold shN; rw [if_neg q, if_pos h0]), num_sum, if_neg q]; exact Nat.le_refl _
    · by_cases h1 : how = 1
      · rw [sumN_congr (g := one (prtN c m s) c (s - sumN (prtN c m s) m)) m (fun i _ => by unfold shN; rw [if_neg q, if_neg h0, if_pos h1]), one_sum]
        have := prt_sum (c := c) (m := m) (s := s) (by omega) m (Nat.le_refl _)
        split <;> omega
      · rw [sumN_congr (g := one (cutN c (levT c m s)) c (s - sumN (cutN c (levT c m s)) m)) m (fun i _ => by unfold shN; rw [if_neg q, if_neg h0, if_neg h1]), one_sum]
        obtain ⟨T, hT⟩ := lev_ex (c := c) (m := m) (s := s) (by omega)
        rw [levT_eq hT]
        have := hT.1
        split <;> omega
def cntP (q : Nat → Bool) (k : Nat) : Nat := sumN (fun c => if q c = true then 1 else 0) k
theorem cnt_pos {q : Nat → Bool} {k : Nat} (h : q k = true) : cntP q (k + 1) = cntP q k + 1 := by unfold cntP; rw [sumN, if_pos h]
theorem cnt_neg {q : Nat → Bool} {k : Nat} (h : ¬ q k = true) : cntP q (k + 1) = cntP q k := by unfold cntP; rw [sumN, if_neg h]; rfl
theorem cnt_mono {q : Nat → Bool} {a b : Nat} (h : a ≤ b) : cntP q a ≤ cntP q b := sumN_mono h
theorem cnt_le (q : Nat → Bool) (k : Nat) : cntP q k ≤ k := by
  have := sumN_bd (f := fun c => if q c = true then 1 else 0) (B := 1) k (fun i _ => by split <;> omega)
  unfold cntP; omega
theorem cnt_lt {q : Nat → Bool} {c m : Nat} (h : c < m) (hq : q c = true) : cntP q c < cntP q m := by
  have := cnt_pos hq
  have := cnt_mono (q := q) (show c + 1 ≤ m by omega)
  omega
/-- sums over the row with zeros and over the row without -/
theorem sum_cmp {q : Nat → Bool} {F G : Nat → Nat} : ∀ k, (∀ c, c < k → q c = true → F c = G (cntP q c)) → (∀ c, c < k → ¬ q c = true → F c = 0) → sumN F k = sumN G (cntP q k) := by
  intro k
  induction k with
  | zero => intro _ _; rfl
  | succ k ih =>
    intro h1 h2
    have := ih (fun c hc => h1 c (by omega)) (fun c hc => h2 c (by omega))
    by_cases hq : q k = true
    · rw [cnt_pos hq, sumN, sumN, this, h1 k (by omega) hq]
    · rw [cnt_neg hq, sumN, this, h2 k (by omega) hq]; omega
theorem sh_cmp (how s m : Nat) (q : Nat → Bool) (f d : Nat → Nat) (h1 : ∀ c, c < m → q c = true → f c = d (cntP q c)) (h2 : ∀ c, c < m → ¬ q c = true → f c = 0) {c : Nat} (hc : c < m) (hq : q c = true) : shN how s d (cntP q m) (cntP q c) = shN how s f m c := by
  have e0 : sumN f m = sumN d (cntP q m) := sum_cmp m h1 h2
  have ec : sumN f c = sumN d (cntP q c) := sum_cmp c (fun x hx => h1 x (by omega)) (fun x hx => h2 x (by omega))
  have fc := h1 c hc hq
  have oneq : ∀ (F G : Nat → Nat) (l : Nat), (∀ x, x < m → q x = true → F x = G (cntP q x)) → one G d l (cntP q c) = one F f l c := by
    intro F G l hFG
    have : opn G d (cntP q c) = opn F f c := by
      unfold opn
      refine (sum_cmp (q := q) c (fun x hx hqx => ?_) (fun x hx hqx => ?_)).symm
      · rw [hFG x (by omega) hqx, h1 x (by omega) hqx]
      · rw [if_neg (by rw [h2 x (by omega) hqx]; omega)]
    unfold one
    rw [this, hFG c hc hq, fc]
  unfold shN
  rw [e0, fc, ec]
  by_cases z : sumN d (cntP q m) ≤ s
  · rw [if_pos z, if_pos z]
  · rw [if_neg z, if_neg z]
    by_cases z0 : how = 0
    · rw [if_pos z0, if_pos z0]
    · rw [if_neg z0, if_neg z0]
      by_cases z1 : how = 1
      · rw [if_pos z1, if_pos z1]
        have hp : ∀ x, x < m → q x = true → prtN f m s x = prtN d (cntP q m) s (cntP q x) := fun x hx hqx => by unfold prtN; rw [h1 x hx hqx, e0]
        have hs : sumN (prtN f m s) m = sumN (prtN d (cntP q m) s) (cntP q m) := sum_cmp m hp (fun x hx hqx => by unfold prtN; rw [h2 x hx hqx, Nat.mul_zero, Nat.zero_div])
        rw [hs]
        exact oneq _ _ _ hp
      · rw [if_neg z1, if_neg z1]
        have hcut : ∀ T x, x < m → q x = true → cutN f T x = cutN d T (cntP q x) := fun T x hx hqx => by unfold cutN; rw [h1 x hx hqx]
        have hsum : ∀ T, sumN (cutN f T) m = sumN (cutN d T) (cntP q m) := fun T => sum_cmp m (hcut T) (fun x hx hqx => by unfold cutN; rw [h2 x hx hqx]; split <;> omega)
        have hl : levT f m s = levT d (cntP q m) s := by
          unfold levT
          congr 1
          funext T
          unfold lvT
          rw [hsum, hsum]
        rw [hl, hsum]
        exact oneq _ _ _ (hcut _)
/-- one claim alone -/
theorem sh_one (how s : Nat) (d : Nat → Nat) : shN how s d 1 0 = if d 0 < s then d 0 else s := by
  have e1 : sumN d 1 = d 0 := by rw [sumN, sumN]; omega
  unfold shN
  rw [e1]
  by_cases z : d 0 ≤ s
  · rw [if_pos z]; split <;> omega
  · rw [if_neg z, if_neg (show ¬ d 0 < s by omega)]
    by_cases z0 : how = 0
    · rw [if_pos z0]; show (if d 0 < s - 0 then d 0 else s - 0) = s; rw [if_neg (by omega)]; omega
    · rw [if_neg z0]
      by_cases z1 : how = 1
      · rw [if_pos z1]
        have hp : prtN d 1 s 0 = s := by unfold prtN; rw [e1, Nat.mul_div_cancel _ (by omega)]
        have hs : sumN (prtN d 1 s) 1 = s := by rw [sumN, sumN, hp]; omega
        rw [hs, Nat.sub_self, one_zero, hp]
      · rw [if_neg z1]
        have hT : lvT d 1 s s := by
          unfold lvT
          rw [sumN, sumN, sumN, sumN]
          unfold cutN
          rw [if_neg (by omega)]
          split <;> omega
        rw [levT_eq hT]
        have hcu : cutN d s 0 = s := by unfold cutN; rw [if_neg (by omega)]
        have hs : sumN (cutN d s) 1 = s := by rw [sumN, sumN, hcu]; omega
        rw [hs, Nat.sub_self, one_zero, hcu]
/-- all claims but one are 0 -/
theorem sh_only (how s m j : Nat) (f : Nat → Nat) (hj : j < m) (h : ∀ c, c < m → c ≠ j → f c = 0) : shN how s f m j = if f j < s then f j else s := by
  have key := sh_cmp how s m (fun c => decide (c = j)) f (fun _ => f j) (fun c hc hq => by rw [of_decide_eq_true hq]) (fun c hc hq => h c hc (fun w => hq (decide_eq_true w))) hj (decide_eq_true rfl)
  have c0 : cntP (fun c => decide (c = j)) j = 0 := by
    have : ∀ k, k ≤ j → cntP (fun c => decide (c = j)) k = 0 := by
      intro k
      induction k with
      | zero => intro _; rfl
      | succ k ih => intro hk; rw [cnt_neg (by rw [decide_eq_true_eq]; omega)]; exact ih (by omega)
    exact this j (Nat.le_refl _)
  have c1 : cntP (fun c => decide (c = j)) m = 1 := by
    have : ∀ k, j < k → cntP (fun c => decide (c = j)) k = 1 := by
      intro k
      induction k with
      | zero => intro hk; omega
      | succ k ih =>
        intro hk
        by_cases q : k = j
        · subst q; rw [cnt_pos (decide_eq_true rfl), c0]
        · rw [cnt_neg (by rw [decide_eq_true_eq]; exact q)]; exact ih (by omega)
    exact this m hj
  rw [c0, c1] at key
  rw [← key, sh_one]
