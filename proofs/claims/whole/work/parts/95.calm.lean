/-! ===== gets, calm, calmest ===== -/
def FNc (a b c : Int32) : Prop := (0 ≤ a ∧ a ≤ 2) ∧ (0 ≤ b ∧ b ≤ 40) ∧ (2 ≤ c ∧ c ≤ 4)
theorem FNc_num {a b c : Int32} (h : FNc a b c) : ∃ how s k : Nat, (how ≤ 2 ∧ a = nI how) ∧ (s ≤ 40 ∧ b = nI s) ∧ (2 ≤ k ∧ k ≤ 4 ∧ c = nI k) := by
  obtain ⟨x, hx, ex⟩ := nI_of2 (M := 2) (n := 2) rfl (le_of_nlt32.mpr h.1.1) h.1.2
  obtain ⟨y, hy, ey⟩ := nI_of2 (M := 40) (n := 40) rfl (le_of_nlt32.mpr h.2.1.1) h.2.1.2
  obtain ⟨z, hz, ez⟩ := nI_of2 (M := 4) (n := 4) rfl (le_of_nlt32.mpr (Int32.le_trans (by decide) h.2.2.1)) h.2.2.2
  refine ⟨x, y, z, ⟨hx, ex⟩, ⟨hy, ey⟩, ?_, hz, ez⟩
  have := h.2.2.1
  rw [ez] at this
  exact (nI_leI (a := 2) (by decide) (by omega)).mp this
theorem c_fine1 (n : Nat) {a b c : Int32} (h : FNc a b c) (st : St) : fX10_areClaimsFine n a b c st = some (1, st) := by
  simp only [fX10_areClaimsFine, fX10_areClaimsFine_s0, fX10_areClaimsFine_s6, fX10_areClaimsFine_s9, fX10_areClaimsFine_s16, fX10_areClaimsFine_s19, fX10_areClaimsFine_s25, fX10_areClaimsFine_s28, pw, Option.bind_some, b1_pos h.1, b1_pos h.2.1, b1_pos h.2.2, if_neg (show ¬ (1 : Int32) = 0 by decide)]
  rfl
theorem c_fine0 (n : Nat) {a b c : Int32} (h : ¬ FNc a b c) (st : St) : fX10_areClaimsFine n a b c st = some (0, st) := by
  simp only [fX10_areClaimsFine, fX10_areClaimsFine_s0, fX10_areClaimsFine_s6, fX10_areClaimsFine_s9, fX10_areClaimsFine_s16, fX10_areClaimsFine_s19, fX10_areClaimsFine_s25, fX10_areClaimsFine_s28, pw, Option.bind_some]
  by_cases h1 : 0 ≤ a ∧ a ≤ 2
  · rw [b1_pos h1, if_neg (show ¬ (1 : Int32) = 0 by decide)]
    by_cases h2 : 0 ≤ b ∧ b ≤ 40
    · rw [b1_pos h2, if_neg (show ¬ (1 : Int32) = 0 by decide), b1_neg (fun h3 => h ⟨h1, h2, h3⟩)]
      rfl
    · rw [b1_neg h2]; rfl
  · rw [b1_neg h1]; rfl
theorem m_cl0 (n : Nat) {a b c : Int32} (h : ¬ FNc a b c) (v : Int64) (M : Int32) (st : St) : fX11_areClaims n a b v c M st = some (0, st) := by
  simp only [fX11_areClaims, fX11_areClaims_s0, fX11_areClaims_s9, fX11_areClaims_s12, fX11_areClaims_s21, fX11_areClaims_s24, fX11_areClaims_s36, pinl (lo := 0) (hi := 2) (lo' := 0) (hi' := 2) (by decide) (by decide), pinl (lo := 0) (hi := 40) (lo' := 0) (hi' := 40) (by decide) (by decide), pinl (lo := 2) (hi := 4) (lo' := 2) (hi' := 4) (by decide) (by decide), Option.bind_some]
  by_cases h1 : 0 ≤ a ∧ a ≤ 2
  · rw [b1_pos h1, if_neg (show ¬ (1 : Int32) = 0 by decide)]
    by_cases h2 : 0 ≤ b ∧ b ≤ 40
    · rw [b1_pos h2, if_neg (show ¬ (1 : Int32) = 0 by decide), b1_neg (fun h3 => h ⟨h1, h2, h3⟩)]
      rfl
    · rw [b1_neg h2]; rfl
  · rw [b1_neg h1]; rfl
theorem m_cl1 (n k M : Nat) (hn : 100 ≤ n) {a b : Int32} (h : FNc a b (nI k)) (hk : k ≤ 4) (hM : M ≤ 15) (v : Int64) (st : St) : ∃ r : Int32, fX11_areClaims n a b v (nI k) (nI M) st = some (r, st) ∧ ((r = 1 ∧ OKd v k M) ∨ (r = 0 ∧ ¬ OKd v k M)) := by
  obtain ⟨r, e, hr⟩ := m_digs n k M v st hn hk hM
  refine ⟨r, ?_, hr⟩
  simp only [fX11_areClaims, fX11_areClaims_s0, fX11_areClaims_s9, fX11_areClaims_s12, fX11_areClaims_s21, fX11_areClaims_s24, fX11_areClaims_s36, pinl (lo := 0) (hi := 2) (lo' := 0) (hi' := 2) (by decide) (by decide), pinl (lo := 0) (hi := 40) (lo' := 0) (hi' := 40) (by decide) (by decide), pinl (lo := 2) (hi := 4) (lo' := 2) (hi' := 4) (by decide) (by decide), Option.bind_some, b1_pos h.1, b1_pos h.2.1, b1_pos h.2.2, if_neg (show ¬ (1 : Int32) = 0 by decide), fX11_areClaims_s39, e, fX11_areClaims_s47]
  rcases hr with ⟨rfl, -⟩ | ⟨rfl, -⟩ <;> rfl
theorem SPgets (n : Nat) (hn : 2 ^ 27 ≤ n) : SP_gets n Inv := by
  intro a b v c i st hI
  suffices hq : ∃ r st1, fX10_gets n a b v c i st = some (r, st1) ∧ ∃ st2, fX11_gets n a b v c i st1 = some (r, st2) by
    obtain ⟨r, st1, h1, st2, h3⟩ := hq
    exact ⟨r, st1, st2, h1, h3, (hI.ess (Ess.of (zX10_gets n a b v c i st _ h1) rfl rfl)).ess (Ess.of (zX11_gets n a b v c i st1 _ h3) rfl rfl)⟩
  by_cases hi0 : i < 0
  · refine ⟨-1, st, ?_, st, ?_⟩
    · simp only [fX10_gets, fX10_gets_s0, if_pos hi0, fX10_gets_s12]
    · simp only [fX11_gets, fX11_gets_s0, if_pos hi0, fX11_gets_s12]
  by_cases hic : i < c
  · by_cases hF : FNc a b c
    · obtain ⟨how, s, k, ⟨hh, rfl⟩, ⟨hs, rfl⟩, hk2, hk, rfl⟩ := FNc_num hF
      obtain ⟨i, hi, rfl⟩ := nI_of hi0
      have hik : i < k := (nI_ltI (by omega) (by omega)).mp hic
      obtain ⟨r, s1, a1, a2, a3, a4, a5⟩ := c_readC n k v (by omega) hk st
      have ec : fX10_gets n (nI how) (nI s) v (nI k) (nI i) st = fX10_gets_s34 n (nI how) (nI s) (nI i) r s1 := by
        simp only [fX10_gets, fX10_gets_s0, if_neg hi0, fX10_gets_s5, if_pos hic, fX10_gets_s14, c_fine1 n hF, Option.bind_some, fX10_gets_s21, if_neg (show ¬ (1 : Int32) = 0 by decide), fX10_gets_s24, a1]
      have em : ∀ t, ∃ r2 : Int32, fX11_gets n (nI how) (nI s) v (nI k) (nI i) t = fX11_gets_s24 n (nI how) (nI s) v (nI k) (nI i) r2 t ∧ ((r2 = 1 ∧ OKd v k 12) ∨ (r2 = 0 ∧ ¬ OKd v k 12)) := by
        intro t
        obtain ⟨r2, e2, h2⟩ := m_cl1 n k 12 (by omega) hF hk (by decide) v t
        rw [show nI 12 = 12 from rfl] at e2
        refine ⟨r2, ?_, h2⟩
        simp only [fX11_gets, fX11_gets_s0, if_neg hi0, fX11_gets_s5, if_pos hic, fX11_gets_s14, e2, Option.bind_some]
      rcases a5 with ⟨rfl, hok⟩ | ⟨rfl, hno⟩
      · obtain ⟨s2, b1, b2, b3⟩ := c_split n 44 k s how (by omega) (by omega) hh (by omega) (du v) (fun a ha => by have := du_lt v a; omega) s1 ⟨a2, a3⟩
        refine ⟨nI (shN how s (du v) k i), s2, ?_, ?_⟩
        · rw [ec]
          have e44 : s2.1 44 2 = nI k := by rw [b2.2 44 (by decide)]; exact a2
          have e46 : s2.1 46 i = nI (shN how s (du v) k i) := b3 i hik
          simp only [fX10_gets_s34, if_neg (show ¬ (1 : Int32) = 0 by decide), fX10_gets_s40, fX0_gotBy, fX0_gotBy_s0, b1, Option.bind_some, fX0_gotBy_s9, if_neg hi0, fX0_gotBy_s13, e44, if_neg (nI_ge hik (show k < 2 ^ 31 by omega)), fX0_gotBy_s24, inb_nI (show i < 8 by omega) (by decide), nI_clamp hi, if_true, e46, fX0_gotBy_s37, fX10_gets_s51]
        · obtain ⟨r2, e2, h2⟩ := em s2
          rw [e2]
          rcases h2 with ⟨rfl, -⟩ | ⟨-, h2⟩
          · obtain ⟨s3, c1⟩ := m_get1 n k how s i v (du v) hn hk hh hs hik (fun a ha => (du_nb hk hok.1 (by omega)).symm) s2
            refine ⟨s3, ?_⟩
            simp only [fX11_gets_s24, if_neg (show ¬ (1 : Int32) = 0 by decide), fX11_gets_s27, c1, Option.bind_some, fX11_gets_s38, fX11_gets_s44, lN_i]
          · exact absurd hok h2
      · refine ⟨-2, s1, ?_, ?_⟩
        · rw [ec]; rfl
        · obtain ⟨r2, e2, h2⟩ := em s1
          rcases h2 with ⟨-, h2⟩ | ⟨rfl, -⟩
          · exact absurd h2 hno
          · exact ⟨s1, by rw [e2]; rfl⟩
    · refine ⟨-2, st, ?_, st, ?_⟩
      · simp only [fX10_gets, fX10_gets_s0, if_neg hi0, fX10_gets_s5, if_pos hic, fX10_gets_s14, c_fine0 n hF, Option.bind_some, fX10_gets_s21]; rfl
      · simp only [fX11_gets, fX11_gets_s0, if_neg hi0, fX11_gets_s5, if_pos hic, fX11_gets_s14, m_cl0 n hF, Option.bind_some, fX11_gets_s24]; rfl
  · refine ⟨-1, st, ?_, st, ?_⟩
    · simp only [fX10_gets, fX10_gets_s0, if_neg hi0, fX10_gets_s5, if_neg hic, fX10_gets_s12]
    · simp only [fX11_gets, fX11_gets_s0, if_neg hi0, fX11_gets_s5, if_neg hic, fX11_gets_s12]
theorem SPcalm (n : Nat) (hn : 2 ^ 27 ≤ n) : SP_calm n Inv := by
  intro a b wv x c st hI
  suffices hq : ∃ r st1, fX10_calm n a b wv x c st = some (r, st1) ∧ ∃ st2, fX11_calm n a b wv x c st1 = some (r, st2) by
    obtain ⟨r, st1, h1, st2, h3⟩ := hq
    exact ⟨r, st1, st2, h1, h3, (hI.ess (Ess.of (zX10_calm n a b wv x c st _ h1) rfl rfl)).ess (Ess.of (zX11_calm n a b wv x c st1 _ h3) rfl rfl)⟩
  by_cases hF : FNc a b c
  · obtain ⟨how, s, k, ⟨hh, rfl⟩, ⟨hs, rfl⟩, hk2, hk, rfl⟩ := FNc_num hF
    obtain ⟨r, s1, a1, a2, a3, a4⟩ := c_readW n k wv (by omega) hk st
    have em : ∀ t, ∃ r2 r3 : Int32, ((r2 = 1 ∧ OKd x k 12) ∨ (r2 = 0 ∧ ¬ OKd x k 12)) ∧ ((r3 = 1 ∧ OKd wv k 9) ∨ (r3 = 0 ∧ ¬ OKd wv k 9)) ∧ fX11_calm n (nI how) (nI s) wv x (nI k) t = (if r2 = 0 then some (-2, t) else if r3 = 0 then some (-2, t) else fX11_calm_s28 n (nI how) (nI s) wv x (nI k) t) := by
      intro t
      obtain ⟨r2, e2, h2⟩ := m_cl1 n k 12 (by omega) hF hk (by decide) x t
      obtain ⟨r3, e3, h3⟩ := m_digs n k 9 wv t (by omega) hk (by decide)
      rw [show nI 12 = 12 from rfl] at e2
      rw [show nI 9 = 9 from rfl] at e3
      refine ⟨r2, r3, h2, h3, ?_⟩
      simp only [fX11_calm, fX11_calm_s0, e2, Option.bind_some, fX11_calm_s11, fX11_calm_s25, fX11_calm_s14, e3, fX11_calm_s22]
    rcases a4 with ⟨rfl, hok⟩ | ⟨rfl, hno⟩
    · obtain ⟨r', s2, b1, b2, b3, b4, b5⟩ := c_readC n k x (by omega) hk s1
      have ec : fX10_calm n (nI how) (nI s) wv x (nI k) st = fX10_calm_s34 n (nI how) (nI s) r' s2 := by
        simp only [fX10_calm, fX10_calm_s0, c_fine1 n hF, Option.bind_some, fX10_calm_s7, if_neg (show ¬ (1 : Int32) = 0 by decide), fX10_calm_s10, a1, fX10_calm_s20, fX10_calm_s23, b1]
      rcases b5 with ⟨rfl, hok2⟩ | ⟨rfl, hno2⟩
      · obtain ⟨q, s3, c1, c2, c3⟩ := c_isCalm n k how s (du x) (du wv) (by omega) hk hh hs (fun a _ => by have := du_lt x a; omega) (fun a _ => by have := du_lt wv a; omega) s2 ⟨b2, b3, fun a ha => by rw [b4]; exact a3 a ha⟩
        have ec2 : fX10_calm n (nI how) (nI s) wv x (nI k) st = some (q, s3) := by
          rw [ec]
          simp only [fX10_calm_s34, if_neg (show ¬ (1 : Int32) = 0 by decide), fX10_calm_s40, c1, Option.bind_some, fX10_calm_s49, fX10_calm_s56, fX10_calm_s52, fX10_calm_s57]
          rcases c3 with ⟨rfl, -⟩ | ⟨rfl, -⟩ <;> rfl
        refine ⟨q, s3, ec2, ?_⟩
        obtain ⟨r2, r3, h2, h3, e⟩ := em s3
        rcases h2 with ⟨rfl, -⟩ | ⟨-, h2⟩
        · rcases h3 with ⟨rfl, -⟩ | ⟨-, h3⟩
          · obtain ⟨q2, s4, d1, d2⟩ := m_isCalm n k how s wv x (du x) (du wv) hn hk hh hs (fun a ha => (du_nb hk hok2.1 (by omega)).symm) (fun a ha => (du_nb hk hok.1 (by omega)).symm) s3
            refine ⟨s4, ?_⟩
            rw [e, if_neg (show ¬ (1 : Int32) = 0 by decide), if_neg (show ¬ (1 : Int32) = 0 by decide)]
            simp only [fX11_calm_s28, d1, Option.bind_some, fX11_calm_s39, fX11_calm_s46, fX11_calm_s42, fX11_calm_s47]
            rcases c3 with ⟨rfl, p1⟩ | ⟨rfl, p1⟩ <;> rcases d2 with ⟨rfl, p2⟩ | ⟨rfl, p2⟩
            · rfl
            · exact absurd p1 p2
            · exact absurd p2 p1
            · rfl
          · exact absurd hok h3
        · exact absurd hok2 h2
      · refine ⟨-2, s2, by rw [ec]; rfl, ?_⟩
        obtain ⟨r2, r3, h2, h3, e⟩ := em s2
        rcases h2 with ⟨-, h2⟩ | ⟨rfl, -⟩
        · exact absurd h2 hno2
        · exact ⟨s2, by rw [e]; rfl⟩
    · refine ⟨-2, s1, ?_, ?_⟩
      · simp only [fX10_calm, fX10_calm_s0, c_fine1 n hF, Option.bind_some, fX10_calm_s7, if_neg (show ¬ (1 : Int32) = 0 by decide), fX10_calm_s10, a1, fX10_calm_s20]; rfl
      · obtain ⟨r2, r3, h2, h3, e⟩ := em s1
        rcases h3 with ⟨-, h3⟩ | ⟨rfl, -⟩
        · exact absurd h3 hno
        · refine ⟨s1, ?_⟩
          rw [e]
          rcases h2 with ⟨rfl, -⟩ | ⟨rfl, -⟩ <;> rfl
  · refine ⟨-2, st, ?_, st, ?_⟩
    · simp only [fX10_calm, fX10_calm_s0, c_fine0 n hF, Option.bind_some, fX10_calm_s7]; rfl
    · simp only [fX11_calm, fX11_calm_s0, m_cl0 n hF, Option.bind_some, fX11_calm_s11]; rfl
/-! the first calm row -/
def rd (k row i : Nat) : Nat := row / 13 ^ (k - 1 - i) % 13
theorem rd_lt (k row i : Nat) : rd k row i < 13 := Nat.mod_lt _ (by decide)
theorem c_fc52 (n k row : Nat) (hk : k ≤ 4) (hrow : row < 2 ^ 30) (K31 : Int32 → Int32 → Int32 → Int32 → St → Option (Int32 × St)) (v1 v2 v3 v4 : Int32) (w : Nat → Nat) : ∀ (j t : Nat) (st : St), t ≤ k → t < j → st.1 44 2 = nI k → (∀ a, t ≤ a → a < k → st.1 45 a = nI (rd k row a)) → (∀ a, a < k → st.1 47 a = nI (w a)) → ∃ st1, fX0_firstCalm_L52 n K31 j v1 v2 v3 v4 (nI (row / 13 ^ (k - t))) (nI t - 1) st = fX0_firstCalm_s85 n K31 v1 v2 v3 v4 st1 ∧ CCl st1 k (rd k row) w := by
  intro j
  induction j with
  | zero => intro t _ _ hj; omega
  | succ j ih =>
    intro t st ht hj hz h1 hw
    simp only [fX0_firstCalm_L52, fX0_firstCalm_s52]
    cases t with
    | zero =>
      rw [if_pos (show nI 0 - 1 < 0 by decide)]
      exact ⟨st, rfl, hz, fun a ha => h1 a (Nat.zero_le _) ha, hw⟩
    | succ t =>
      have hq : row / 13 ^ (k - (t + 1)) ≤ row := Nat.div_le_self _ _
      rw [nI_pred, if_neg (nI_pos (by omega))]
      simp only [fX0_firstCalm_s57, fX0_firstCalm_s72, inb_nI (show t < 8 by omega) (by decide), nI_clamp (show t < 2 ^ 31 by omega), if_true]
      rw [show (13 : Int32) = nI 13 from rfl, pk_rem (by omega) (by decide) (by decide), pk_div (by omega) (by decide) (by decide), Nat.div_div_eq_div_mul, ← Nat.pow_succ, show (k - (t + 1)).succ = k - t by omega, show nI t + (-1) = nI t - 1 from by rw [Int32.sub_eq_add_neg]]
      exact ih t _ (by omega) (by omega) (by rw [sI_o (by decide)]; exact hz) (fun a h2 h3 => by
        by_cases e : a = t
        · subst e; rw [sI_at]; unfold rd; rw [show k - 1 - a = k - (a + 1) by omega]
        · rw [sI_k e]; exact h1 a (by omega) h3) (fun a ha => by rw [sI_o (by decide)]; exact hw a ha)
theorem c_fc31 (n k how s R : Nat) (w : Nat → Nat) (hn : 100 ≤ n) (hk : k ≤ 4) (hh : how ≤ 2) (hs : s ≤ 40) (hR : R < 2 ^ 30) (hw : ∀ a, a < k → w a ≤ 15) : ∀ (j row : Nat) (st : St), row ≤ R → R - row < j → st.1 44 2 = nI k → (∀ a, a < k → st.1 47 a = nI (w a)) → (∀ q, q < row → ¬ CalmP how s (rd k q) w k) → (∃ row2 st1, row2 < R ∧ fX0_firstCalm_L31 n j (nI how) (nI s) (nI R) (nI row) st = some (1, st1) ∧ CCl st1 k (rd k row2) w ∧ CalmP how s (rd k row2) w k ∧ ∀ q, q < row2 → ¬ CalmP how s (rd k q) w k) ∨ (∃ st1, fX0_firstCalm_L31 n j (nI how) (nI s) (nI R) (nI row) st = some (0, st1) ∧ ∀ q, q < R → ¬ CalmP how s (rd k q) w k) := by
  intro j
  induction j with
  | zero => intro row _ _ hj; omega
  | succ j ih =>
    intro row st hr hj hz hW hno
    simp only [fX0_firstCalm_L31, fX0_firstCalm_s31]
    by_cases q : row = R
    · subst q
      rw [if_pos (nI_le (Nat.le_refl _) (by omega))]
      exact Or.inr ⟨st, rfl, hno⟩
    · rw [if_neg (nI_ge (by omega) (by omega))]
      simp only [fX0_firstCalm_s37]
      obtain ⟨s1, a1, a2⟩ := c_fc52 n k row hk (by omega) (fX0_firstCalm_L31 n j) (nI how) (nI s) (nI R) (nI row) w n k st (Nat.le_refl _) (by omega) hz (fun a h1 h2 => by omega) hW
      rw [Nat.sub_self, Nat.pow_zero, Nat.div_one] at a1
      rw [hz, a1]
      obtain ⟨r, s2, b1, b2, b3⟩ := c_isCalm n k how s (rd k row) w hn hk hh hs (fun a _ => by have := rd_lt k row a; omega) hw s1 a2
      simp only [fX0_firstCalm_s85, b1, Option.bind_some, fX0_firstCalm_s91]
      rcases b3 with ⟨rfl, p⟩ | ⟨rfl, p⟩
      · rw [if_neg (show ¬ (1 : Int32) = 0 by decide)]
        exact Or.inl ⟨row, s2, by omega, rfl, b2, p, hno⟩
      · rw [if_pos rfl]
        simp only [fX0_firstCalm_s96, nI_1]
        exact ih (row + 1) s2 (by omega) (by omega) b2.1 b2.2.2 (fun q hq => by
          by_cases e : q = row
          · subst e; exact p
          · exact hno q (by omega))
theorem c_fc5 (n k : Nat) (v1 v2 : Int32) (hk : k ≤ 4) (st : St) (hz : st.1 44 2 = nI k) : ∀ (j t : Nat), t ≤ k → k - t < j → fX0_firstCalm_L5 n j v1 v2 (nI (13 ^ t)) (nI t) st = fX0_firstCalm_s28 n v1 v2 (nI (13 ^ k)) st := by
  intro j
  induction j with
  | zero => intro t _ hj; omega
  | succ j ih =>
    intro t ht hj
    simp only [fX0_firstCalm_L5, fX0_firstCalm_s5, hz]
    by_cases q : t = k
    · subst q
      rw [if_pos (nI_le (Nat.le_refl _) (by omega))]
    · rw [if_neg (nI_ge (by omega) (by omega))]
      simp only [fX0_firstCalm_s17]
      rw [show (13 : Int32) = nI 13 from rfl, pk_mul, ← Nat.pow_succ, nI_1]
      exact ih (t + 1) (by omega) (by omega)
/-- the row as it is told -/
def tT (d : Nat → Nat) (t : Nat) : Nat → Nat
  | 0 => 0
  | m + 1 => tT d (t + 1) m * 16 + d t
theorem c_tell12 (n k : Nat) (hk : k ≤ 4) (d : Nat → Nat) (hd : ∀ a, a < k → d a ≤ 15) (st : St) (h : ∀ a, a < k → st.1 45 a = nI (d a)) : ∀ (j t : Nat), t ≤ k → t < j → fX0_tellClaims_L12 n j (lN (tT d t (k - t))) (nI t - 1) st = some (lN (tT d 0 k), st) := by
  intro j
  induction j with
  | zero => intro t _ hj; omega
  | succ j ih =>
    intro t ht hj
    simp only [fX0_tellClaims_L12, fX0_tellClaims_s12]
    cases t with
    | zero =>
      rw [if_pos (show nI 0 - 1 < 0 by decide)]
      rfl
    | succ t =>
      rw [nI_pred, if_neg (nI_pos (by omega))]
      have hdt := hd t (by omega)
      simp only [fX0_tellClaims_s16, inb_nI (show t < 8 by omega) (by decide), nI_clamp (show t < 2 ^ 31 by omega), if_true, h t (by omega)]
      rw [nI_l (by omega), show (16 : Int64) = lN 16 from rfl, lN_mul, lN_add, show nI t + (-1) = nI t - 1 from by rw [Int32.sub_eq_add_neg]]
      have := ih t (by omega) (by omega)
      rw [show k - t = (k - (t + 1)) + 1 by omega, tT] at this
      exact this
theorem lN_or (a b : Nat) : lN a ||| lN b = lN (a ||| b) := by
  apply Int64.toBitVec_inj.1
  show BitVec.ofNat 64 a ||| BitVec.ofNat 64 b = BitVec.ofNat 64 (a ||| b)
  rw [BitVec.ofNat_or]
theorem or_dig (T d t : Nat) (hd : d < 16) : (2 ^ (4 * (t + 1)) * T) ||| (d * 2 ^ (4 * t)) = 2 ^ (4 * t) * (T * 16 + d) := by
  have hlt : d * 2 ^ (4 * t) < 2 ^ (4 * (t + 1)) := by
    rw [show 4 * (t + 1) = 4 + 4 * t by omega, Nat.pow_add]
    exact Nat.mul_lt_mul_of_pos_right (show d < 2 ^ 4 from hd) (Nat.pow_pos (by decide))
  rw [← Nat.two_pow_add_eq_or_of_lt hlt T, show 4 * (t + 1) = 4 * t + 4 by omega, Nat.pow_add, Nat.mul_add, Nat.mul_comm d, Nat.mul_assoc, Nat.mul_comm T 16]
theorem m_cm63 (n k row : Nat) (hk : k ≤ 4) (hrow : row < 2 ^ 30) (K43 : Int32 → Int32 → Int64 → Int32 → Int32 → Int32 → St → Option (Int64 × St)) (v1 v2 : Int32) (wv : Int64) (v5 v6 v7 : Int32) (st : St) : ∀ (j t : Nat), t ≤ k → t < j → fX11_calmest_L63 n K43 j v1 v2 wv v5 v6 v7 (lN (2 ^ (4 * t) * tT (rd k row) t (k - t))) (nI (row / 13 ^ (k - t))) (nI t - 1) st = fX11_calmest_s97 n K43 v1 v2 wv v5 v6 v7 (lN (tT (rd k row) 0 k)) st := by
  intro j
  induction j with
  | zero => intro t _ hj; omega
  | succ j ih =>
    intro t ht hj
    simp only [fX11_calmest_L63, fX11_calmest_s63]
    cases t with
    | zero =>
      rw [if_pos (show nI 0 - 1 < 0 by decide)]
      rw [show 2 ^ (4 * 0) * tT (rd k row) 0 (k - 0) = tT (rd k row) 0 k from by rw [Nat.mul_zero, Nat.pow_zero, Nat.one_mul, Nat.sub_zero]]
    | succ t =>
      have hq : row / 13 ^ (k - (t + 1)) ≤ row := Nat.div_le_self _ _
      have hr := rd_lt k row t
      rw [nI_pred, if_neg (nI_pos (by omega))]
      simp only [fX11_calmest_s68]
      have e1 : row / 13 ^ (k - (t + 1)) % 13 = rd k row t := by unfold rd; rw [show k - 1 - t = k - (t + 1) by omega]
      have hs := sh4_l t (by omega) (rd k row t) (by omega)
      unfold sh4 at hs
      rw [show (13 : Int32) = nI 13 from rfl, pk_rem (by omega) (by decide) (by decide), pk_div (by omega) (by decide) (by decide), Nat.div_div_eq_div_mul, ← Nat.pow_succ, show (k - (t + 1)).succ = k - t by omega, show nI t + (-1) = nI t - 1 from by rw [Int32.sub_eq_add_neg], e1, nI_l (by omega), hs, lN_or, or_dig _ _ _ (by omega)]
      have := ih t (by omega) (by omega)
      rw [show tT (rd k row) t (k - t) = tT (rd k row) (t + 1) (k - (t + 1)) * 16 + rd k row t from by rw [show k - t = (k - (t + 1)) + 1 by omega, tT]] at this
      exact this
theorem tT_dig (d : Nat → Nat) (k : Nat) (h2 : 2 ≤ k) (h3 : k ≤ 3) (hd : ∀ a, a < 4 → d a ≤ 12) (a : Nat) (ha : a < k) : tT d 0 k < 65536 ∧ tT d 0 k / 2 ^ (4 * a) % 16 = d a := by
  have h0 := hd 0 (by decide)
  have h1 := hd 1 (by decide)
  have h2' := hd 2 (by decide)
  by_cases e : k = 2
  · subst e
    have et : tT d 0 2 = (0 * 16 + d 1) * 16 + d 0 := rfl
    rw [et]
    match a, ha with
    | 0, _ => simp only [Nat.reduceMul, Nat.reducePow]; omega
    | 1, _ => simp only [Nat.reduceMul, Nat.reducePow]; omega
  · have e : k = 3 := by omega
    subst e
    have et : tT d 0 3 = ((0 * 16 + d 2) * 16 + d 1) * 16 + d 0 := rfl
    rw [et]
    match a, ha with
    | 0, _ => simp only [Nat.reduceMul, Nat.reducePow]; omega
    | 1, _ => simp only [Nat.reduceMul, Nat.reducePow]; omega
    | 2, _ => simp only [Nat.reduceMul, Nat.reducePow]; omega
theorem m_cm43 (n k how s R : Nat) (wv : Int64) (w : Nat → Nat) (hn : 2 ^ 27 ≤ n) (hk2 : 2 ≤ k) (hk : k ≤ 3) (hh : how ≤ 2) (hs : s ≤ 40) (hR : R < 2 ^ 20) (hw : ∀ a, a < k → nb wv a = w a) : ∀ (j row : Nat) (st : St), row ≤ R → R - row < j → (∀ q, q < row → ¬ CalmP how s (rd k q) w k) → (∃ row2 st1, row2 < R ∧ fX11_calmest_L43 n j (nI how) (nI s) wv (nI k) (nI R) (nI row) st = some (lN (tT (rd k row2) 0 k), st1) ∧ CalmP how s (rd k row2) w k ∧ ∀ q, q < row2 → ¬ CalmP how s (rd k q) w k) ∨ (∃ st1, fX11_calmest_L43 n j (nI how) (nI s) wv (nI k) (nI R) (nI row) st = some (-1, st1) ∧ ∀ q, q < R → ¬ CalmP how s (rd k q) w k) := by
  intro j
  induction j with
  | zero => intro row _ _ hj; omega
  | succ j ih =>
    intro row st hr hj hno
    simp only [fX11_calmest_L43, fX11_calmest_s43]
    by_cases q : row = R
    · subst q
      rw [if_pos (nI_le (Nat.le_refl _) (by omega))]
      exact Or.inr ⟨st, rfl, hno⟩
    · rw [if_neg (nI_ge (by omega) (by omega))]
      simp only [fX11_calmest_s50]
      have e := m_cm63 n k row (by omega) (by omega) (fX11_calmest_L43 n j) (nI how) (nI s) wv (nI k) (nI R) (nI row) st n k (Nat.le_refl _) (by omega)
      rw [Nat.sub_self, Nat.pow_zero, Nat.div_one, show tT (rd k row) k 0 = 0 from rfl, Nat.mul_zero, show lN 0 = 0 from rfl] at e
      rw [e]
      obtain ⟨r, s2, b1, b3⟩ := m_isCalm n k how s wv (lN (tT (rd k row) 0 k)) (rd k row) w hn (by omega) hh hs (fun a ha => by
        have ht := tT_dig (rd k row) k hk2 hk (fun a _ => by have := rd_lt k row a; omega) a ha
        rw [nb_n ht.1 (by omega)]; exact ht.2) hw st
      simp only [fX11_calmest_s97, b1, Option.bind_some, fX11_calmest_s108]
      rcases b3 with ⟨rfl, p⟩ | ⟨rfl, p⟩
      · rw [if_neg (show ¬ (1 : Int32) = 0 by decide)]
        exact Or.inl ⟨row, s2, by omega, rfl, p, hno⟩
      · rw [if_pos rfl]
        simp only [fX11_calmest_s114, nI_1]
        exact ih (row + 1) s2 (by omega) (by omega) (fun q hq => by
          by_cases e : q = row
          · subst e; exact p
          · exact hno q (by omega))
theorem SPcalmest (n : Nat) (hn : 2 ^ 27 ≤ n) : SP_calmest n Inv := by
  intro a b wv c st hI
  suffices hq : ∃ r st1, fX10_calmest n a b wv c st = some (r, st1) ∧ ∃ st2, fX11_calmest n a b wv c st1 = some (r, st2) by
    obtain ⟨r, st1, h1, st2, h3⟩ := hq
    exact ⟨r, st1, st2, h1, h3, (hI.ess (Ess.of (zX10_calmest n a b wv c st _ h1) rfl rfl)).ess (Ess.of (zX11_calmest n a b wv c st1 _ h3) rfl rfl)⟩
  by_cases hF : FNc a b c
  · obtain ⟨how, s, k, ⟨hh, rfl⟩, ⟨hs, rfl⟩, hk2, hk, rfl⟩ := FNc_num hF
    have em : ∀ t, ∃ r2 : Int32, ((r2 = 1 ∧ OKd wv k 9) ∨ (r2 = 0 ∧ ¬ OKd wv k 9)) ∧ fX11_calmest n (nI how) (nI s) wv (nI k) t = (if r2 = 0 then some (-2, t) else if nI k = 4 then some (-2, t) else fX11_calmest_s23 n (nI how) (nI s) wv (nI k) t) := by
      intro t
      obtain ⟨r2, e2, h2⟩ := m_cl1 n k 9 (by omega) hF hk (by decide) wv t
      rw [show nI 9 = 9 from rfl] at e2
      refine ⟨r2, h2, ?_⟩
      simp only [fX11_calmest, fX11_calmest_s0, e2, Option.bind_some, fX11_calmest_s10, fX11_calmest_s19, fX11_calmest_s13]
    by_cases k4 : k = 4
    · subst k4
      refine ⟨-2, st, ?_, st, ?_⟩
      · simp only [fX10_calmest, fX10_calmest_s0, c_fine1 n hF, Option.bind_some, fX10_calmest_s7, if_neg (show ¬ (1 : Int32) = 0 by decide), fX10_calmest_s10, if_pos (show (3 : Int32) < nI 4 by decide), fX10_calmest_s29]
      · obtain ⟨r2, h2, e⟩ := em st
        rw [e]
        rcases h2 with ⟨rfl, -⟩ | ⟨rfl, -⟩ <;> rfl
    · obtain ⟨r, s1, a1, a2, a3, a4⟩ := c_readW n k wv (by omega) hk st
      have ec : fX10_calmest n (nI how) (nI s) wv (nI k) st = fX10_calmest_s26 n (nI how) (nI s) r s1 := by
        simp only [fX10_calmest, fX10_calmest_s0, c_fine1 n hF, Option.bind_some, fX10_calmest_s7, if_neg (show ¬ (1 : Int32) = 0 by decide), fX10_calmest_s10, if_neg (show ¬ (3 : Int32) < nI k from nI_nlt (a := 3) (by omega) (by decide)), fX10_calmest_s16, a1]
      rcases a4 with ⟨rfl, hok⟩ | ⟨rfl, hno⟩
      · have hkR : 13 ^ k < 2 ^ 20 := Nat.lt_of_le_of_lt (Nat.pow_le_pow_right (by decide) (show k ≤ 3 by omega)) (by decide)
        have hkR2 : 13 ^ k ≤ 13 ^ 3 := Nat.pow_le_pow_right (by decide) (show k ≤ 3 by omega)
        have hkn : 13 ^ k - 0 < n := by rw [Nat.sub_zero]; exact Nat.lt_of_le_of_lt hkR2 (by omega)
        have e5 := c_fc5 n k (nI how) (nI s) hk s1 a2 n 0 (by omega) (by omega)
        rw [show nI (13 ^ 0) = 1 from rfl, show nI 0 = 0 from rfl] at e5
        have em2 : ∀ t, fX11_calmest n (nI how) (nI s) wv (nI k) t = fX11_calmest_L43 n n (nI how) (nI s) wv (nI k) (nI (13 ^ k)) 0 t := by
          intro t
          obtain ⟨r2, h2, e⟩ := em t
          rw [e]
          rcases h2 with ⟨rfl, -⟩ | ⟨-, h2⟩
          · rw [if_neg (show ¬ (1 : Int32) = 0 by decide), if_neg (show ¬ nI k = 4 from fun w => k4 ((nI_eq (by omega) (b := 4) (by decide)).mp w))]
            simp only [fX11_calmest_s23]
            by_cases k2 : k = 2
            · subst k2; rfl
            · have : k = 3 := by omega
              subst this; rfl
          · exact absurd hok h2
        have hw9 : ∀ a, a < k → du wv a ≤ 15 := fun a _ => by have := du_lt wv a; omega
        have hnb : ∀ a, a < k → nb wv a = du wv a := fun a ha => (du_nb hk hok.1 (by omega)).symm
        have ec3 : fX10_calmest n (nI how) (nI s) wv (nI k) st = (fX0_firstCalm_L31 n n (nI how) (nI s) (nI (13 ^ k)) (nI 0) s1).bind (fun q => fX10_calmest_s42 n q.1 q.2) := by
          rw [ec]
          simp only [fX10_calmest_s26, if_neg (show ¬ (1 : Int32) = 0 by decide), fX10_calmest_s33, fX0_firstCalm, fX0_firstCalm_s0, e5, fX0_firstCalm_s28]
          rfl
        rcases c_fc31 n k how s (13 ^ k) (du wv) (by omega) hk hh hs (Nat.lt_trans hkR (by decide)) hw9 n 0 s1 (Nat.zero_le _) hkn a2 a3 (fun q hq => by omega) with ⟨row2, s2, p1, p2, p3, p4, p5⟩ | ⟨s2, p2, p3⟩
        · have et := c_tell12 n k hk (rd k row2) (fun a _ => by have := rd_lt k row2 a; omega) s2 p3.2.1 n k (Nat.le_refl _) (by omega)
          rw [Nat.sub_self, show tT (rd k row2) k 0 = 0 from rfl, show lN 0 = 0 from rfl] at et
          refine ⟨lN (tT (rd k row2) 0 k), s2, ?_, ?_⟩
          · rw [ec3, p2]
            simp only [Option.bind_some, fX10_calmest_s42, if_neg (show ¬ (1 : Int32) = 0 by decide), fX10_calmest_s45, fX0_tellClaims, fX0_tellClaims_s0, p3.1, et, fX10_calmest_s52, fX10_calmest_s58]
          · rw [em2]
            rcases m_cm43 n k how s (13 ^ k) wv (du wv) hn hk2 (by omega) hh hs hkR hnb n 0 s2 (Nat.zero_le _) hkn (fun q hq => by omega) with ⟨row3, s3, q1, q2, q3, q4⟩ | ⟨s3, q2, q3⟩
            · have : row2 = row3 := by
                rcases Nat.lt_trichotomy row2 row3 with h | h | h
                · exact absurd p4 (q4 _ h)
                · exact h
                · exact absurd q3 (p5 _ h)
              subst this
              exact ⟨s3, q2⟩
            · exact absurd p4 (q3 _ p1)
        · refine ⟨-1, s2, ?_, ?_⟩
          · rw [ec3, p2]; rfl
          · rw [em2]
            rcases m_cm43 n k how s (13 ^ k) wv (du wv) hn hk2 (by omega) hh hs hkR hnb n 0 s2 (Nat.zero_le _) hkn (fun q hq => by omega) with ⟨row3, s3, q1, q2, q3, q4⟩ | ⟨s3, q2, q3⟩
            · exact absurd q3 (p3 _ q1)
            · exact ⟨s3, q2⟩
      · refine ⟨-2, s1, by rw [ec]; rfl, ?_⟩
        obtain ⟨r2, h2, e⟩ := em s1
        rcases h2 with ⟨-, h2⟩ | ⟨rfl, -⟩
        · exact absurd h2 hno
        · exact ⟨s1, by rw [e]; rfl⟩
  · refine ⟨-2, st, ?_, st, ?_⟩
    · simp only [fX10_calmest, fX10_calmest_s0, c_fine0 n hF, Option.bind_some, fX10_calmest_s7]; rfl
    · simp only [fX11_calmest, fX11_calmest_s0, m_cl0 n hF, Option.bind_some, fX11_calmest_s10]; rfl
