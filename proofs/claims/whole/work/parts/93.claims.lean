/-! ===== claims: digits, what each gets, calm rows ===== -/
theorem opn_congr2 {g g' c c' : Nat → Nat} (k : Nat) (h : ∀ i, i < k → g i = g' i ∧ c i = c' i) : opn g c k = opn g' c' k := sumN_congr k (fun i hi => by rw [(h i hi).1, (h i hi).2])
theorem one_congr2 {g g' c c' : Nat → Nat} (l i : Nat) (h : ∀ j, j ≤ i → g j = g' j ∧ c j = c' j) : one g c l i = one g' c' l i := by
  unfold one
  rw [opn_congr2 i (fun j hj => h j (by omega)), (h i (Nat.le_refl _)).1, (h i (Nat.le_refl _)).2]
theorem cut_congr {c c' : Nat → Nat} {t j : Nat} (h : c j = c' j) : cutN c t j = cutN c' t j := by unfold cutN; rw [h]
theorem shN_congr (how s : Nat) {c c' : Nat → Nat} (m i : Nat) (hi : i < m) (h : ∀ j, j < m → c j = c' j) : shN how s c m i = shN how s c' m i := by
  have hS : sumN c m = sumN c' m := sumN_congr m h
  have hL : levT c m s = levT c' m s := by
    unfold levT
    congr 1
    funext T
    unfold lvT
    rw [sumN_congr (f := cutN c T) (g := cutN c' T) m (fun j hj => cut_congr (h j hj)), sumN_congr (f := cutN c (T + 1)) (g := cutN c' (T + 1)) m (fun j hj => cut_congr (h j hj))]
  have hP : ∀ j, j < m → prtN c m s j = prtN c' m s j := fun j hj => by unfold prtN; rw [h j hj, hS]
  unfold shN
  rw [hS, h i hi, sumN_congr (f := c) (g := c') i (fun j hj => h j (by omega)), hL]
  rw [one_congr2 (g := prtN c m s) (g' := prtN c' m s) (c := c) (c' := c') _ i (fun j hj => ⟨hP j (by omega), h j (by omega)⟩), sumN_congr (f := prtN c m s) (g := prtN c' m s) m hP]
  rw [one_congr2 (g := cutN c (levT c' m s)) (g' := cutN c' (levT c' m s)) (c := c) (c' := c') _ i (fun j hj => ⟨cut_congr (h j (by omega)), h j (by omega)⟩), sumN_congr (f := cutN c (levT c' m s)) (g := cutN c' (levT c' m s)) m (fun j hj => cut_congr (h j hj))]
def dst (a b : Nat) : Nat := if b ≤ a then a - b else b - a
def pt1 (d : Nat → Nat) (i c j : Nat) : Nat := if j = i then c else d j
theorem pt1_self (d : Nat → Nat) (i : Nat) : pt1 d i (d i) = d := by funext j; unfold pt1; split <;> simp_all
theorem dst_i {a b : Nat} (ha : a < 2 ^ 30) (hb : b < 2 ^ 30) : (if 0 ≤ nI a - nI b then nI a - nI b else 0 - (nI a - nI b)) = nI (dst a b) := by
  unfold dst
  by_cases h : b ≤ a
  · rw [if_pos h, pk_sub h, if_pos (nI_pos' (by omega))]
  · rw [if_neg h, if_neg (fun w => by have := pk_sneg (a := a) hb (by omega); exact absurd this (le_of_nlt32.mpr w)), Int32.zero_sub, Int32.neg_sub, pk_sub (by omega)]
theorem dst_l {a b : Nat} (ha : a < 2 ^ 30) (hb : b < 2 ^ 30) : absJ (lN a - lN b) = lN (dst a b) := by
  unfold dst absJ
  by_cases h : b ≤ a
  · rw [if_pos h, lN_sub h]
    by_cases z : a - b = 0
    · rw [z]; rfl
    · rw [if_pos (by rw [show (0 : Int64) = lN 0 from rfl, pk_lLT (by decide) (by omega)]; omega)]
  · rw [if_neg h]
    have e : -(lN a - lN b) = lN (b - a) := by rw [Int64.neg_sub, lN_sub (by omega)]
    rw [if_neg, e]
    intro w
    have e2 : (lN a - lN b).toInt = (a : Int) - b := by
      rw [← lZ_nat, ← lZ_nat, lZ_sub, lZ_ti (by omega)]
    rw [Int64.lt_iff_toInt_lt, e2, show (0 : Int64).toInt = 0 from rfl] at w
    omega
/-- the claims, the wants, as the class has them -/
def CCl (st : St) (k : Nat) (d w : Nat → Nat) : Prop := st.1 44 2 = nI k ∧ (∀ j, j < k → st.1 45 j = nI (d j)) ∧ ∀ j, j < k → st.1 47 j = nI (w j)
theorem CCl.k {st st1 : St} {k : Nat} {d w : Nat → Nat} (h : CCl st k d w) (q : kSh 44 st st1) : CCl st1 k d w := ⟨by rw [q.2 44 (by decide)]; exact h.1, fun j hj => by rw [q.2 45 (by decide)]; exact h.2.1 j hj, fun j hj => by rw [q.2 47 (by decide)]; exact h.2.2 j hj⟩
theorem CCl.put {st : St} {k : Nat} {d w : Nat → Nat} (h : CCl st k d w) (i c : Nat) : CCl (setI st 45 i (nI c)) k (pt1 d i c) w := ⟨by rw [sI_o (by decide)]; exact h.1, fun j hj => by
  unfold pt1
  by_cases e : j = i
  · subst e; rw [sI_at, if_pos rfl]
  · rw [sI_k e, if_neg e]; exact h.2.1 j hj, fun j hj => by rw [sI_o (by decide)]; exact h.2.2 j hj⟩
theorem c_dist (n k how s i : Nat) (d w : Nat → Nat) (hn : 100 ≤ n) (hk : k ≤ 4) (hh : how ≤ 2) (hs : s ≤ 40) (hd : ∀ j, j < k → d j ≤ 15) (hw : ∀ j, j < k → w j ≤ 15) (hi : i < k) (st : St) (hC : CCl st k d w) : ∃ st1, fX0_distance n (nI i) (nI how) (nI s) st = some (nI (dst (shN how s d k i) (w i)), st1) ∧ kSh 44 st st1 := by
  obtain ⟨s1, a1, a2, a3⟩ := c_split n 44 k s how (by omega) hn hh (by omega) d (fun j hj => by have := hd j hj; omega) st ⟨hC.1, hC.2.1⟩
  refine ⟨s1, ?_, a2⟩
  have e1 : s1.1 46 i = nI (shN how s d k i) := a3 i hi
  have e2 : s1.1 47 i = nI (w i) := (hC.k a2).2.2 i hi
  have hb := sh_le how s d k i
  have hd1 := hd i hi
  have hw1 := hw i hi
  simp only [fX0_distance, fX0_distance_s0, a1, Option.bind_some, fX0_distance_s9, inb_nI (show i < 8 by omega) (by decide), inb_nI (show i < 4 by omega) (by decide), nI_clamp (show i < 2 ^ 31 by omega), if_true, e1, e2]
  rw [dst_i (by omega) (by omega)]
/-- whether customer i could get nearer by the claim c -/
def nearer (how s : Nat) (d w : Nat → Nat) (k i c : Nat) : Prop := dst (shN how s (pt1 d i c) k i) (w i) < dst (shN how s d k i) (w i)
def CalmP (how s : Nat) (d w : Nat → Nat) (k : Nat) : Prop := ∀ i, i < k → ∀ c, c ≤ 12 → ¬ nearer how s d w k i c
theorem c_cal44 (n k how s i : Nat) (d w : Nat → Nat) (hn : 100 ≤ n) (hk : k ≤ 4) (hh : how ≤ 2) (hs : s ≤ 40) (hd : ∀ j, j < k → d j ≤ 15) (hw : ∀ j, j < k → w j ≤ 15) (hi : i < k) (K14 : Int32 → Int32 → Int32 → St → Option (Int32 × St)) : ∀ (j cc : Nat) (x : Nat) (st : St), cc ≤ 13 → 14 - cc < j → x ≤ 15 → CCl st k (pt1 d i x) w → (∀ c, c < cc → ¬ nearer how s d w k i c) → ∃ (v6 : Int32) (y : Nat) (st1 : St), y ≤ 15 ∧ fX0_isCalm_L44 n K14 j (nI how) (nI s) (nI i) (nI (d i)) (nI (dst (shN how s d k i) (w i))) 0 (nI cc) st = fX0_isCalm_s97 n K14 (nI how) (nI s) (nI i) (nI (d i)) v6 st1 ∧ CCl st1 k (pt1 d i y) w ∧ ((v6 = 1 ∧ ∃ c, c ≤ 12 ∧ nearer how s d w k i c) ∨ (v6 = 0 ∧ ∀ c, c ≤ 12 → ¬ nearer how s d w k i c)) := by
  have hb := sh_le how s d k i
  have hd1 := hd i hi
  have hw1 := hw i hi
  have hfar : dst (shN how s d k i) (w i) ≤ 15 := by unfold dst; split <;> omega
  intro j
  induction j with
  | zero => intro cc _ _ _ hj; omega
  | succ j ih =>
    intro cc x st hcc hj hx hC hno
    simp only [fX0_isCalm_L44, fX0_isCalm_s44]
    by_cases q : cc = 13
    · subst q
      rw [if_pos (show (12 : Int32) < nI 13 by decide)]
      exact ⟨0, x, st, hx, rfl, hC, Or.inr ⟨rfl, fun c hc => hno c (by omega)⟩⟩
    · rw [if_neg (show ¬ (12 : Int32) < nI cc from nI_nlt (a := 12) (by omega) (by decide))]
      simp only [fX0_isCalm_s51]
      by_cases z : dst (shN how s d k i) (w i) = 0
      · rw [z, if_pos (show nI 0 ≤ 0 by decide)]
        exact ⟨0, x, st, hx, rfl, hC, Or.inr ⟨rfl, fun c hc hne => by unfold nearer at hne; omega⟩⟩
      · rw [if_neg (nI_nle (by omega) (by omega))]
        simp only [fX0_isCalm_s56, if_true, fX0_isCalm_s61, inb_nI (show i < 8 by omega) (by decide), nI_clamp (show i < 2 ^ 31 by omega)]
        have hC2 : CCl (setI st 45 i (nI cc)) k (pt1 d i cc) w := by
          have := hC.put i cc
          have e : pt1 (pt1 d i x) i cc = pt1 d i cc := by funext a; unfold pt1; split <;> simp_all
          rwa [e] at this
        obtain ⟨s1, a1, a2⟩ := c_dist n k how s i (pt1 d i cc) w hn hk hh hs (fun a ha => by unfold pt1; split; omega; exact hd a ha) hw hi _ hC2
        have hb2 := sh_le how s (pt1 d i cc) k i
        have hpt : pt1 d i cc i = cc := if_pos rfl
        have hfar2 : dst (shN how s (pt1 d i cc) k i) (w i) ≤ 15 := by unfold dst; split <;> omega
        simp only [fX0_isCalm_s72, a1, Option.bind_some, fX0_isCalm_s79, fX0_isCalm_s88, fX0_isCalm_s84, fX0_isCalm_s89, nI_1]
        by_cases r : dst (shN how s (pt1 d i cc) k i) (w i) < dst (shN how s d k i) (w i)
        · rw [if_neg (nI_ge r (by omega))]
          refine ⟨1, cc, s1, by omega, ?_, hC2.k a2, Or.inl ⟨rfl, cc, by omega, r⟩⟩
          cases j with
          | zero => omega
          | succ j =>
            simp only [fX0_isCalm_L44, fX0_isCalm_s44]
            by_cases q2 : cc + 1 = 13
            · rw [q2, if_pos (show (12 : Int32) < nI 13 by decide)]
            · rw [if_neg (show ¬ (12 : Int32) < nI (cc + 1) from nI_nlt (a := 12) (by omega) (by decide))]
              simp only [fX0_isCalm_s51]
              rw [if_neg (nI_nle (by omega) (by omega))]
              simp only [fX0_isCalm_s56, if_neg (show ¬ (1 : Int32) = 0 by decide)]
        · rw [if_pos (nI_le (by omega) (by omega))]
          exact ih (cc + 1) cc s1 (by omega) (by omega) (by omega) (hC2.k a2) (fun c hc => by
            by_cases e : c = cc
            · subst e; exact r
            · exact hno c (by omega))
theorem c_cal14 (n k how s : Nat) (d w : Nat → Nat) (hn : 100 ≤ n) (hk : k ≤ 4) (hh : how ≤ 2) (hs : s ≤ 40) (hd : ∀ j, j < k → d j ≤ 15) (hw : ∀ j, j < k → w j ≤ 15) : ∀ (j t : Nat) (st : St), t ≤ k → t < j → CCl st k d w → (∀ i, t ≤ i → i < k → ∀ c, c ≤ 12 → ¬ nearer how s d w k i c) → ∃ (r : Int32) (st1 : St), fX0_isCalm_L14 n j (nI how) (nI s) (nI t - 1) st = some (r, st1) ∧ CCl st1 k d w ∧ ((r = 1 ∧ CalmP how s d w k) ∨ (r = 0 ∧ ¬ CalmP how s d w k)) := by
  intro j
  induction j with
  | zero => intro t _ _ hj; omega
  | succ j ih =>
    intro t st ht hj hC hno
    simp only [fX0_isCalm_L14, fX0_isCalm_s14]
    cases t with
    | zero =>
      rw [if_pos (show nI 0 - 1 < 0 by decide)]
      exact ⟨1, st, rfl, hC, Or.inl ⟨rfl, fun i hi => hno i (Nat.zero_le _) hi⟩⟩
    | succ t =>
      rw [nI_pred, if_neg (nI_pos (by omega))]
      obtain ⟨s1, a1, a2⟩ := c_dist n k how s t d w hn hk hh hs hd hw (by omega) st hC
      have h45 : st.1 45 t = nI (d t) := hC.2.1 t (by omega)
      simp only [fX0_isCalm_s18, inb_nI (show t < 8 by omega) (by decide), nI_clamp (show t < 2 ^ 31 by omega), if_true, a1, Option.bind_some, fX0_isCalm_s36, h45]
      obtain ⟨v6, y, s2, hy, b1, b2, b3⟩ := c_cal44 n k how s t d w hn hk hh hs hd hw (by omega) (fX0_isCalm_L14 n j) n 0 (d t) s1 (by omega) (by omega) (hd t (by omega)) (by rw [pt1_self]; exact hC.k a2) (fun c hc => by omega)
      rw [show nI 0 = 0 from rfl] at b1
      rw [b1]
      have hC3 : CCl (setI s2 45 t (nI (d t))) k d w := by
        have := b2.put t (d t)
        have e : pt1 (pt1 d t y) t (d t) = d := by funext a; unfold pt1; split <;> simp_all
        rwa [e] at this
      simp only [fX0_isCalm_s97, inb_nI (show t < 8 by omega) (by decide), nI_clamp (show t < 2 ^ 31 by omega), if_true, fX0_isCalm_s108]
      rcases b3 with ⟨rfl, c, hc, hne⟩ | ⟨rfl, hall⟩
      · rw [if_neg (show ¬ (1 : Int32) = 0 by decide)]
        exact ⟨0, _, rfl, hC3, Or.inr ⟨rfl, fun h => h t (by omega) c hc hne⟩⟩
      · rw [if_pos rfl]
        simp only [fX0_isCalm_s115]
        rw [show nI t + (-1) = nI t - 1 from by rw [Int32.sub_eq_add_neg]]
        exact ih t _ (by omega) (by omega) hC3 (fun i h1 h2 => by
          by_cases e : i = t
          · subst e; exact hall
          · exact hno i (by omega) h2)
theorem c_isCalm (n k how s : Nat) (d w : Nat → Nat) (hn : 100 ≤ n) (hk : k ≤ 4) (hh : how ≤ 2) (hs : s ≤ 40) (hd : ∀ j, j < k → d j ≤ 15) (hw : ∀ j, j < k → w j ≤ 15) (st : St) (hC : CCl st k d w) : ∃ (r : Int32) (st1 : St), fX0_isCalm n (nI how) (nI s) st = some (r, st1) ∧ CCl st1 k d w ∧ ((r = 1 ∧ CalmP how s d w k) ∨ (r = 0 ∧ ¬ CalmP how s d w k)) := by
  have e : (if (4 : Int32) < st.1 44 2 then 4 else st.1 44 2) = nI k := by
    rw [hC.1, if_neg (show ¬ (4 : Int32) < nI k from nI_nlt (a := 4) (by omega) (by decide))]
  simp only [fX0_isCalm, fX0_isCalm_s0, e]
  exact c_cal14 n k how s d w hn hk hh hs hd hw n k st (Nat.le_refl _) (by omega) hC (fun i h1 h2 => by omega)
/-! digits to the base 16, of any long -/
def sh4 (j : Nat) : Int64 := ((4 : Int32) * nI j).toInt64 &&& 63
def nb (x : Int64) (j : Nat) : Nat := (x >>> sh4 j).toBitVec.toNat % 2 ^ 4
theorem nb_eq (x : Int64) (j : Nat) : (x >>> (((4 : Int32) * nI j).toInt64 &&& 63)) &&& 15 = lN (nb x j) := and_l (x >>> sh4 j) 15 4 (by decide)
theorem nb_lt (x : Int64) (j : Nat) : nb x j < 16 := Nat.mod_lt _ (by decide)
theorem sh4_s : ∀ j, j < 16 → ((sh4 j).toBitVec.smod 64).toNat = 4 * j := by decide +kernel
theorem sh4_u : ∀ j, j < 16 → ((((4 : Int32) * nI j).toInt64.toUInt64 &&& Int64.toUInt64 63).toNat % 64) = 4 * j := by decide +kernel
theorem nb_bit (x : Int64) {j : Nat} (hj : j < 16) (p : Nat) : (nb x j).testBit p = (decide (p < 4) && x.toBitVec.getLsbD (4 * j + p)) := by
  unfold nb
  rw [Nat.testBit_mod_two_pow]
  by_cases hp : p < 4
  · simp only [hp, decide_true, Bool.true_and]
    show (x.toBitVec.sshiftRight ((sh4 j).toBitVec.smod 64).toNat).toNat.testBit p = _
    rw [sh4_s j hj, BitVec.testBit_toNat, BitVec.getLsbD_sshiftRight, if_pos (by omega), decide_eq_false (by omega)]
    rfl
  · simp [hp]
theorem sh4_l : ∀ i, i < 4 → ∀ c, c < 16 → lN c <<< sh4 i = lN (c * 2 ^ (4 * i)) := by decide +kernel
theorem tb_mul (c e q : Nat) : (c * 2 ^ e).testBit q = (decide (e ≤ q) && c.testBit (q - e)) := by
  rw [← Nat.shiftLeft_eq, Nat.testBit_shiftLeft]
theorem nb_put (v : Int64) {i j c : Nat} (hi : i < 4) (hj : j < 4) (hc : c < 16) : nb ((v &&& (((15 : Int64) <<< sh4 i) ^^^ (-1))) ||| (lN c <<< sh4 i)) j = if j = i then c else nb v j := by
  apply Nat.eq_of_testBit_eq
  intro p
  rw [nb_bit _ (by omega)]
  have key : ∀ q, q < 64 → ((v &&& (((15 : Int64) <<< sh4 i) ^^^ (-1))) ||| (lN c <<< sh4 i)).toBitVec.getLsbD q = ((v.toBitVec.getLsbD q && !((15 * 2 ^ (4 * i)).testBit q)) || (c * 2 ^ (4 * i)).testBit q) := by
    intro q hq
    rw [show (15 : Int64) = lN 15 from rfl, sh4_l i hi 15 (by decide), sh4_l i hi c hc]
    rw [Int64.toBitVec_or, Int64.toBitVec_and, Int64.toBitVec_xor, show (lN (15 * 2 ^ (4 * i))).toBitVec = BitVec.ofNat 64 (15 * 2 ^ (4 * i)) from rfl, show (lN (c * 2 ^ (4 * i))).toBitVec = BitVec.ofNat 64 (c * 2 ^ (4 * i)) from rfl, show (-1 : Int64).toBitVec = BitVec.allOnes 64 from by decide]
    simp only [BitVec.getLsbD_or, BitVec.getLsbD_and, BitVec.getLsbD_xor, BitVec.getLsbD_ofNat, BitVec.getLsbD_allOnes, hq, decide_true, Bool.true_and, Bool.xor_true]
  by_cases hp : p < 4
  · rw [key _ (by omega), tb_mul, tb_mul]
    simp only [hp, decide_true, Bool.true_and]
    by_cases e : j = i
    · subst e
      rw [if_pos rfl, show 4 * j + p - 4 * j = p by omega, show (15 : Nat).testBit p = true from by rw [show (15 : Nat) = 2 ^ 4 - 1 from rfl, Nat.testBit_two_pow_sub_one]; simp [hp]]
      simp [show 4 * j ≤ 4 * j + p by omega]
    · rw [if_neg e, nb_bit _ (by omega)]
      simp only [hp, decide_true, Bool.true_and]
      by_cases h : 4 * i ≤ 4 * j + p
      · have h4 : 4 ≤ 4 * j + p - 4 * i := by omega
        rw [show (15 : Nat).testBit (4 * j + p - 4 * i) = false from by rw [show (15 : Nat) = 2 ^ 4 - 1 from rfl, Nat.testBit_two_pow_sub_one]; simp; omega]
        rw [Nat.testBit_lt_two_pow (x := c) (i := 4 * j + p - 4 * i) (Nat.lt_of_lt_of_le (show c < 2 ^ 4 from hc) (Nat.pow_le_pow_right (by decide) h4))]
        simp
      · simp [h]
  · have h16 : ∀ y, y < 16 → y.testBit p = false := fun y hy => Nat.testBit_lt_two_pow (Nat.lt_of_lt_of_le (show y < 2 ^ 4 from hy) (Nat.pow_le_pow_right (by decide) (by omega)))
    simp only [hp, decide_false, Bool.false_and]
    split
    · exact (h16 c hc).symm
    · exact (h16 _ (nb_lt v j)).symm
