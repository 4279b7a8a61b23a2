/-! ===== claims: reading them, in both; the reference's calm ===== -/
def du (v : Int64) (j : Nat) : Nat := (((v.toUInt64 >>> (((4 : Int32) * nI j).toInt64.toUInt64 &&& Int64.toUInt64 63)).toInt64).toInt32).toBitVec.toNat % 2 ^ 4
theorem du_eq (v : Int64) (j : Nat) : (((v.toUInt64 >>> (((4 : Int32) * nI j).toInt64.toUInt64 &&& Int64.toUInt64 63)).toInt64).toInt32) &&& 15 = nI (du v j) := pk_and _ 4 (by decide)
theorem du_lt (v : Int64) (j : Nat) : du v j < 16 := Nat.mod_lt _ (by decide)
/-- no more than k digits -/
def fits16 (v : Int64) (k : Nat) : Prop := v.toBitVec.toNat < 2 ^ (4 * k)
theorem ush_nat (v : Int64) (x : UInt64) (s : Nat) (hx : x.toNat % 64 = s) : ((v.toUInt64 >>> x).toInt64).toBitVec.toNat = v.toBitVec.toNat / 2 ^ s := by
  show (v.toUInt64 >>> x).toNat = v.toUInt64.toNat / 2 ^ s
  rw [UInt64.toNat_shiftRight, hx, Nat.shiftRight_eq_div_pow]
theorem fits_c (v : Int64) (k : Nat) (hk : k < 16) : (v.toUInt64 >>> (((4 : Int32) * nI k).toInt64.toUInt64 &&& Int64.toUInt64 63)).toInt64 = 0 ↔ fits16 v k := by
  rw [← Int64.toBitVec_inj, ← BitVec.toNat_inj, ush_nat v _ (4 * k) (sh4_u k hk)]
  show v.toBitVec.toNat / 2 ^ (4 * k) = 0 ↔ _
  exact Nat.div_eq_zero_iff_lt (Nat.pow_pos (by decide))
theorem fits_m (v : Int64) (k : Nat) (hk : k < 15) : (¬ v < 0 ∧ v >>> (((4 : Int32) * nI k).toInt64 &&& 63) = 0) ↔ fits16 v k := by
  rw [← fits_c v k (by omega)]
  exact (ends_iff v _ (sh4 k) (4 * k) (sh4_u k (by omega)) (sh4_s k (by omega)) (by omega)).symm
theorem fits_n {v : Int64} {k : Nat} (hk : k ≤ 4) (h : fits16 v k) : v = lN v.toBitVec.toNat ∧ v.toBitVec.toNat < 65536 := by
  refine ⟨?_, Nat.lt_of_lt_of_le h (Nat.le_trans (Nat.pow_le_pow_right (by decide) (show 4 * k ≤ 16 by omega)) (by decide))⟩
  rw [← Int64.toBitVec_inj]
  show v.toBitVec = BitVec.ofNat 64 v.toBitVec.toNat
  rw [BitVec.ofNat_toNat, BitVec.setWidth_eq]
theorem lN_tn {V : Nat} (h : V < 2 ^ 64) : (lN V).toBitVec.toNat = V := by
  show (BitVec.ofNat 64 V).toNat = V
  rw [BitVec.toNat_ofNat, Nat.mod_eq_of_lt h]
theorem ushl_n {V : Nat} (hV : V < 65536) (x : UInt64) (s : Nat) (hx : x.toNat % 64 = s) : ((lN V).toUInt64 >>> x).toInt64 = lN (V / 2 ^ s) := by
  have h1 : V / 2 ^ s ≤ V := Nat.div_le_self _ _
  rw [← Int64.toBitVec_inj, ← BitVec.toNat_inj, ush_nat _ _ s hx, lN_tn (by omega), lN_tn (by omega)]
theorem sshl_n {V : Nat} (hV : V < 65536) (D : Int64) (s : Nat) (hD : (D.toBitVec.smod 64).toNat = s) : lN V >>> D = lN (V / 2 ^ s) := by
  have h1 : V / 2 ^ s ≤ V := Nat.div_le_self _ _
  have e : (lN V >>> D).toInt = (lN V).toInt >>> s := by
    rw [← hD]
    exact BitVec.toInt_sshiftRight ..
  rw [← Int64.toInt_inj, e, pk_lT (by omega), pk_lT (by omega), Int.shiftRight_eq_div_pow]
  norm_cast
theorem nb_n {V : Nat} (hV : V < 65536) {j : Nat} (hj : j < 16) : nb (lN V) j = V / 2 ^ (4 * j) % 16 := by
  have h1 : V / 2 ^ (4 * j) ≤ V := Nat.div_le_self _ _
  unfold nb
  rw [sshl_n hV (sh4 j) (4 * j) (sh4_s j hj), lN_tn (by omega)]
theorem du_n {V : Nat} (hV : V < 65536) {j : Nat} (hj : j < 16) : du (lN V) j = V / 2 ^ (4 * j) % 16 := by
  have h1 : V / 2 ^ (4 * j) ≤ V := Nat.div_le_self _ _
  unfold du
  rw [ushl_n hV _ (4 * j) (sh4_u j hj), lN_i, pk_tn (by omega)]
theorem du_nb {v : Int64} {k : Nat} (hk : k ≤ 4) (h : fits16 v k) {j : Nat} (hj : j < 16) : du v j = nb v j := by
  obtain ⟨e, hV⟩ := fits_n hk h
  rw [e, du_n hV hj, nb_n hV hj]
theorem c_ends (n : Nat) (v : Int64) (k : Nat) (hk : k < 16) (st : St) : ∃ f : Int32, fX10_endsBelow n v (4 * nI k) st = some (f, st) ∧ ((f = 1 ∧ fits16 v k) ∨ (f = 0 ∧ ¬ fits16 v k)) := by
  simp only [fX10_endsBelow, fX10_endsBelow_s0]
  by_cases h : fits16 v k
  · rw [if_pos ((fits_c v k hk).mpr h)]; exact ⟨1, rfl, Or.inl ⟨rfl, h⟩⟩
  · rw [if_neg (fun w => h ((fits_c v k hk).mp w))]; exact ⟨0, rfl, Or.inr ⟨rfl, h⟩⟩
theorem c_app (n b i : Nat) (v : Int32) (st : St) (hi : i < 8) (h : st.1 b 2 = nI i) : fX8_append n b v st = some ((), setI (setI st (b + 1) i v) b 2 (nI (i + 1))) := by
  simp only [fX8_append, fX8_append_s0, h]
  rw [if_neg (show ¬ (8 : Int32) ≤ nI i from nI_ge (b := 8) (by omega) (by decide))]
  simp only [fX8_append_s12, h, inb_nI hi (by decide), nI_clamp (show i < 2 ^ 31 by omega), if_true, fX8_append_s22, fX8_append_s32]
  rw [sI_o (show b ≠ b + 1 by omega), h, nI_1]
def OKd (v : Int64) (k M : Nat) : Prop := fits16 v k ∧ ∀ a, a < k → du v a ≤ M
theorem c_rdC (n k : Nat) (v : Int64) (hk : k ≤ 4) : ∀ (j i : Nat) (f : Int32) (st : St), i ≤ k → k - i < j → ((f = 1 ∧ fits16 v k ∧ ∀ a, a < i → du v a ≤ 12) ∨ (f = 0 ∧ ¬ OKd v k 12)) → st.1 44 2 = nI i → (∀ a, a < i → st.1 45 a = nI (du v a)) → ∃ (r : Int32) (st1 : St), fX0_readClaims_L20 n j v (nI k) f (nI i) st = some (r, st1) ∧ st1.1 44 2 = nI k ∧ (∀ a, a < k → st1.1 45 a = nI (du v a)) ∧ st1.1 47 = st.1 47 ∧ ((r = 1 ∧ OKd v k 12) ∨ (r = 0 ∧ ¬ OKd v k 12)) := by
  intro j
  induction j with
  | zero => intro i _ _ _ hj; omega
  | succ j ih =>
    intro i f st hi hj hf hz hr
    simp only [fX0_readClaims_L20, fX0_readClaims_s20]
    by_cases q : i = k
    · subst q
      rw [if_pos (nI_le (Nat.le_refl _) (by omega))]
      rcases hf with ⟨rfl, h1, h2⟩ | ⟨rfl, h1⟩
      · exact ⟨1, st, rfl, hz, hr, rfl, Or.inl ⟨rfl, h1, h2⟩⟩
      · exact ⟨0, st, rfl, hz, hr, rfl, Or.inr ⟨rfl, h1⟩⟩
    · rw [if_neg (nI_ge (by omega) (by omega))]
      simp only [fX0_readClaims_s26]
      rw [if_neg (show ¬ (4 : Int32) ≤ nI i from nI_ge (b := 4) (by omega) (by decide))]
      have hap := c_app n 44 i (nI (du v i)) st (by omega) hz
      have go : ∀ g : Int32, ((g = 1 ∧ fits16 v k ∧ ∀ a, a < i + 1 → du v a ≤ 12) ∨ (g = 0 ∧ ¬ OKd v k 12)) → ∃ (r : Int32) (st1 : St), fX0_readClaims_s61 n (fX0_readClaims_L20 n j) v (nI k) (nI i) (nI (du v i)) g st = some (r, st1) ∧ st1.1 44 2 = nI k ∧ (∀ a, a < k → st1.1 45 a = nI (du v a)) ∧ st1.1 47 = st.1 47 ∧ ((r = 1 ∧ OKd v k 12) ∨ (r = 0 ∧ ¬ OKd v k 12)) := by
        intro g hg
        simp only [fX0_readClaims_s61, hap, Option.bind_some, fX0_readClaims_s72, nI_1]
        obtain ⟨r, s1, a1, a2, a3, a4, a5⟩ := ih (i + 1) g (setI (setI st 45 i (nI (du v i))) 44 2 (nI (i + 1))) (by omega) (by omega) hg sI_at (fun a ha => by
          rw [sI_o (by decide)]
          by_cases e : a = i
          · subst e; rw [sI_at]
          · rw [sI_k e]; exact hr a (by omega))
        exact ⟨r, s1, a1, a2, a3, by rw [a4, sI_o (by decide), sI_o (by decide)], a5⟩
      simp only [fX0_readClaims_s32, du_eq]
      rcases hf with ⟨rfl, h1, h2⟩ | ⟨rfl, h1⟩
      · rw [if_neg (show ¬ (1 : Int32) = 0 by decide)]
        have hlt := du_lt v i
        simp only [fX0_readClaims_s49]
        by_cases c : du v i ≤ 12
        · rw [if_neg (show ¬ (12 : Int32) < nI (du v i) from nI_nlt (a := 12) c (by decide))]
          exact go 1 (Or.inl ⟨rfl, h1, fun a ha => by
            by_cases e : a = i
            · subst e; exact c
            · exact h2 a (by omega)⟩)
        · rw [if_pos (show (12 : Int32) < nI (du v i) from nI_lt (a := 12) (by omega) (by omega))]
          exact go 0 (Or.inr ⟨rfl, fun w => c (w.2 i (by omega))⟩)
      · rw [if_pos rfl]
        exact go 0 (Or.inr ⟨rfl, h1⟩)
theorem c_readC (n k : Nat) (v : Int64) (hn : 100 ≤ n) (hk : k ≤ 4) (st : St) : ∃ (r : Int32) (st1 : St), fX0_readClaims n v (nI k) st = some (r, st1) ∧ st1.1 44 2 = nI k ∧ (∀ a, a < k → st1.1 45 a = nI (du v a)) ∧ st1.1 47 = st.1 47 ∧ ((r = 1 ∧ OKd v k 12) ∨ (r = 0 ∧ ¬ OKd v k 12)) := by
  obtain ⟨f, e, hf⟩ := c_ends n v k (by omega) (setI st 44 2 0)
  simp only [fX0_readClaims, fX0_readClaims_s0, fX0_readClaims_s8, e, Option.bind_some, fX0_readClaims_s15]
  obtain ⟨r, s1, a1, a2, a3, a4, a5⟩ := c_rdC n k v hk n 0 f (setI st 44 2 0) (by omega) (by omega) (by
    rcases hf with ⟨h1, h2⟩ | ⟨h1, h2⟩
    · exact Or.inl ⟨h1, h2, fun a ha => by omega⟩
    · exact Or.inr ⟨h1, fun w => h2 w.1⟩) sI_at (fun a ha => by omega)
  exact ⟨r, s1, a1, a2, a3, by rw [a4, sI_o (by decide)], a5⟩
theorem c_rdW (n k : Nat) (v : Int64) (hk : k ≤ 4) : ∀ (j i : Nat) (f : Int32) (st : St), i ≤ k → k - i < j → ((f = 1 ∧ fits16 v k ∧ ∀ a, a < i → du v a ≤ 9) ∨ (f = 0 ∧ ¬ OKd v k 9)) → st.1 44 2 = nI i → (∀ a, a < i → st.1 47 a = nI (du v a)) → ∃ (r : Int32) (st1 : St), fX0_readWants_L20 n j v (nI k) f (nI i) st = some (r, st1) ∧ st1.1 44 2 = nI k ∧ (∀ a, a < k → st1.1 47 a = nI (du v a)) ∧ ((r = 1 ∧ OKd v k 9) ∨ (r = 0 ∧ ¬ OKd v k 9)) := by
  intro j
  induction j with
  | zero => intro i _ _ _ hj; omega
  | succ j ih =>
    intro i f st hi hj hf hz hr
    simp only [fX0_readWants_L20, fX0_readWants_s20]
    by_cases q : i = k
    · subst q
      rw [if_pos (nI_le (Nat.le_refl _) (by omega))]
      rcases hf with ⟨rfl, h1, h2⟩ | ⟨rfl, h1⟩
      · exact ⟨1, st, rfl, hz, hr, Or.inl ⟨rfl, h1, h2⟩⟩
      · exact ⟨0, st, rfl, hz, hr, Or.inr ⟨rfl, h1⟩⟩
    · rw [if_neg (nI_ge (by omega) (by omega))]
      simp only [fX0_readWants_s26]
      rw [if_neg (show ¬ (4 : Int32) ≤ nI i from nI_ge (b := 4) (by omega) (by decide))]
      simp only [fX0_readWants_s32, inb_nI (show i < 4 by omega) (by decide), nI_clamp (show i < 2 ^ 31 by omega), if_true, du_eq]
      have hz2 : (setI st 47 i (nI (du v i))).1 44 2 = nI i := by rw [sI_o (by decide)]; exact hz
      have hap := c_app n 44 i 0 (setI st 47 i (nI (du v i))) (by omega) hz2
      have go : ∀ g : Int32, ((g = 1 ∧ fits16 v k ∧ ∀ a, a < i + 1 → du v a ≤ 9) ∨ (g = 0 ∧ ¬ OKd v k 9)) → ∃ (r : Int32) (st1 : St), fX0_readWants_s71 n (fX0_readWants_L20 n j) v (nI k) (nI i) g (setI st 47 i (nI (du v i))) = some (r, st1) ∧ st1.1 44 2 = nI k ∧ (∀ a, a < k → st1.1 47 a = nI (du v a)) ∧ ((r = 1 ∧ OKd v k 9) ∨ (r = 0 ∧ ¬ OKd v k 9)) := by
        intro g hg
        simp only [fX0_readWants_s71, hap, Option.bind_some, fX0_readWants_s81, nI_1]
        exact ih (i + 1) g _ (by omega) (by omega) hg sI_at (fun a ha => by
          rw [sI_o (by decide), sI_o (by decide)]
          by_cases e : a = i
          · subst e; rw [sI_at]
          · rw [sI_k e]; exact hr a (by omega))
      simp only [fX0_readWants_s49]
      rcases hf with ⟨rfl, h1, h2⟩ | ⟨rfl, h1⟩
      · rw [if_neg (show ¬ (1 : Int32) = 0 by decide)]
        have hlt := du_lt v i
        simp only [fX0_readWants_s54, inb_nI (show i < 4 by omega) (by decide), nI_clamp (show i < 2 ^ 31 by omega), if_true, sI_at]
        by_cases c : du v i ≤ 9
        · rw [if_neg (show ¬ (9 : Int32) < nI (du v i) from nI_nlt (a := 9) c (by decide))]
          exact go 1 (Or.inl ⟨rfl, h1, fun a ha => by
            by_cases e : a = i
            · subst e; exact c
            · exact h2 a (by omega)⟩)
        · rw [if_pos (show (9 : Int32) < nI (du v i) from nI_lt (a := 9) (by omega) (by omega))]
          exact go 0 (Or.inr ⟨rfl, fun w => c (w.2 i (by omega))⟩)
      · rw [if_pos rfl]
        exact go 0 (Or.inr ⟨rfl, h1⟩)
theorem c_readW (n k : Nat) (v : Int64) (hn : 100 ≤ n) (hk : k ≤ 4) (st : St) : ∃ (r : Int32) (st1 : St), fX0_readWants n v (nI k) st = some (r, st1) ∧ st1.1 44 2 = nI k ∧ (∀ a, a < k → st1.1 47 a = nI (du v a)) ∧ ((r = 1 ∧ OKd v k 9) ∨ (r = 0 ∧ ¬ OKd v k 9)) := by
  obtain ⟨f, e, hf⟩ := c_ends n v k (by omega) (setI st 44 2 0)
  simp only [fX0_readWants, fX0_readWants_s0, fX0_readWants_s8, e, Option.bind_some, fX0_readWants_s15]
  exact c_rdW n k v hk n 0 f (setI st 44 2 0) (by omega) (by omega) (by
    rcases hf with ⟨h1, h2⟩ | ⟨h1, h2⟩
    · exact Or.inl ⟨h1, h2, fun a ha => by omega⟩
    · exact Or.inr ⟨h1, fun w => h2 w.1⟩) sI_at (fun a ha => by omega)
/-! the reference's -/
theorem m_digL (n k M : Nat) (v : Int64) (st : St) (hk : k ≤ 4) (hM : M ≤ 15) : ∀ (j i : Nat), i ≤ k → k - i < j → (∀ a, a < i → nb v a ≤ M) → ∃ r : Int32, fX11_areDigits_L21 n j v (nI k) (nI M) (nI i) st = some (r, st) ∧ ((r = 1 ∧ ∀ a, a < k → nb v a ≤ M) ∨ (r = 0 ∧ ¬ ∀ a, a < k → nb v a ≤ M)) := by
  intro j
  induction j with
  | zero => intro i _ hj; omega
  | succ j ih =>
    intro i hi hj h1
    simp only [fX11_areDigits_L21, fX11_areDigits_s21]
    by_cases q : i = k
    · subst q
      rw [if_pos (nI_le (Nat.le_refl _) (by omega))]
      exact ⟨1, rfl, Or.inl ⟨rfl, h1⟩⟩
    · rw [if_neg (nI_ge (by omega) (by omega))]
      have hlt := nb_lt v i
      simp only [fX11_areDigits_s27, nb_eq, fX11_areDigits_s45, nI_1]
      rw [nI_l (by omega)]
      by_cases c : nb v i ≤ M
      · rw [if_pos ((pk_lLE (by omega) (by omega)).mpr c)]
        exact ih (i + 1) (by omega) (by omega) (fun a ha => by
          by_cases e : a = i
          · subst e; exact c
          · exact h1 a (by omega))
      · rw [if_neg (fun w => c ((pk_lLE (by omega) (by omega)).mp w))]
        exact ⟨0, rfl, Or.inr ⟨rfl, fun w => c (w i (by omega))⟩⟩
theorem m_digs (n k M : Nat) (v : Int64) (st : St) (hn : 100 ≤ n) (hk : k ≤ 4) (hM : M ≤ 15) : ∃ r : Int32, fX11_areDigits n v (nI k) (nI M) st = some (r, st) ∧ ((r = 1 ∧ OKd v k M) ∨ (r = 0 ∧ ¬ OKd v k M)) := by
  have hq : ∀ (h : fits16 v k), (∀ a, a < k → nb v a ≤ M) ↔ ∀ a, a < k → du v a ≤ M := fun h => ⟨fun w a ha => by rw [du_nb hk h (by omega)]; exact w a ha, fun w a ha => by rw [← du_nb hk h (by omega)]; exact w a ha⟩
  have hm := fits_m v k (by omega)
  simp only [fX11_areDigits, fX11_areDigits_s0, fX11_areDigits_s6]
  by_cases h0 : v < 0
  · rw [if_pos h0]; exact ⟨0, rfl, Or.inr ⟨rfl, fun w => (hm.mpr w.1).1 h0⟩⟩
  · rw [if_neg h0]
    by_cases h1 : v >>> (((4 : Int32) * nI k).toInt64 &&& 63) = 0
    · rw [if_pos h1]
      have hf := hm.mp ⟨h0, h1⟩
      simp only [fX11_areDigits_s18]
      obtain ⟨r, e, hr⟩ := m_digL n k M v st hk hM n 0 (by omega) (by omega) (fun a ha => by omega)
      refine ⟨r, e, ?_⟩
      rcases hr with ⟨a, b⟩ | ⟨a, b⟩
      · exact Or.inl ⟨a, hf, (hq hf).mp b⟩
      · exact Or.inr ⟨a, fun w => b ((hq hf).mpr w.2)⟩
    · rw [if_neg h1]; exact ⟨0, rfl, Or.inr ⟨rfl, fun w => h1 (hm.mpr w.1).2⟩⟩
theorem m_getL (n k how s i : Nat) (x : Int64) (d : Nat → Nat) (hn : 2 ^ 27 ≤ n) (hk : k ≤ 4) (hh : how ≤ 2) (hs : s ≤ 40) (hi : i < k) (hd : ∀ a, a < k → nb x a = d a) : ∀ (j c : Nat) (st : St), c ≤ k → k - c < j → (∀ a, a < c → st.2 151 a = lN (d a)) → ∃ st1, fX11_getsOne_L3 n j (nI how) (nI s) x (nI k) (nI i) (nI c) st = some (lN (shN how s d k i), st1) := by
  intro j
  induction j with
  | zero => intro c _ _ hj; omega
  | succ j ih =>
    intro c st hc hj h1
    simp only [fX11_getsOne_L3, fX11_getsOne_s3]
    by_cases q : c = k
    · subst q
      rw [if_pos (nI_le (Nat.le_refl _) (by omega))]
      simp only [fX11_getsOne_s33]
      obtain ⟨s1, a1, a2, a3⟩ := m_shares n c s how (by omega) hn hh (by omega) d (fun a ha => by have := nb_lt x a; have := hd a ha; omega) st h1
      rw [nI_l (by omega), a1]
      refine ⟨s1, ?_⟩
      simp only [Option.bind_some, fX11_getsOne_s42, inb_nI (show i < 8 by omega) (by decide), nI_clamp (show i < 2 ^ 31 by omega), if_true, a3 i hi]
    · rw [if_neg (nI_ge (by omega) (by omega))]
      simp only [fX11_getsOne_s10, fX11_getsOne_s27, inb_nI (show c < 8 by omega) (by decide), nI_clamp (show c < 2 ^ 31 by omega), if_true, nb_eq, nI_1, hd c (by omega)]
      exact ih (c + 1) _ (by omega) (by omega) (fun a ha => by
        by_cases e : a = c
        · subst e; rw [sJ_at]
        · rw [sJ_k e]; exact h1 a (by omega))
theorem m_get1 (n k how s i : Nat) (x : Int64) (d : Nat → Nat) (hn : 2 ^ 27 ≤ n) (hk : k ≤ 4) (hh : how ≤ 2) (hs : s ≤ 40) (hi : i < k) (hd : ∀ a, a < k → nb x a = d a) (st : St) : ∃ st1, fX11_getsOne n (nI how) (nI s) x (nI k) (nI i) st = some (lN (shN how s d k i), st1) := by
  simp only [fX11_getsOne, fX11_getsOne_s0]
  exact m_getL n k how s i x d hn hk hh hs hi hd n 0 st (by omega) (by omega) (fun a ha => by omega)
theorem m_cal45 (n k how s i : Nat) (wv x : Int64) (d w : Nat → Nat) (hn : 2 ^ 27 ≤ n) (hk : k ≤ 4) (hh : how ≤ 2) (hs : s ≤ 40) (hi : i < k) (hd : ∀ a, a < k → nb x a = d a) (hw : ∀ a, a < k → w a ≤ 15) (K3 : Int32 → Int32 → Int64 → Int64 → Int32 → Int32 → St → Option (Int32 × St)) : ∀ (j cc : Nat) (st : St), cc ≤ 13 → 13 - cc < j → (∀ c, c < cc → ¬ nearer how s d w k i c) → (∃ st1, fX11_isCalm_L45 n K3 j (nI how) (nI s) wv x (nI k) (nI i) (lN (w i)) (lN (dst (shN how s d k i) (w i))) (lN cc) st = K3 (nI how) (nI s) wv x (nI k) (nI (i + 1)) st1 ∧ ∀ c, c ≤ 12 → ¬ nearer how s d w k i c) ∨ (∃ st1, fX11_isCalm_L45 n K3 j (nI how) (nI s) wv x (nI k) (nI i) (lN (w i)) (lN (dst (shN how s d k i) (w i))) (lN cc) st = some (0, st1) ∧ ∃ c, c ≤ 12 ∧ nearer how s d w k i c) := by
  have hb := sh_le how s d k i
  have hw1 := hw i hi
  have hd1 : d i ≤ 15 := by have := nb_lt x i; have := hd i hi; omega
  have hfar : dst (shN how s d k i) (w i) ≤ 15 := by unfold dst; split <;> omega
  intro j
  induction j with
  | zero => intro cc _ _ hj; omega
  | succ j ih =>
    intro cc st hcc hj hno
    simp only [fX11_isCalm_L45, fX11_isCalm_s45]
    by_cases q : cc = 13
    · subst q
      rw [if_pos (show (12 : Int64) < lN 13 by decide)]
      left
      exact ⟨st, by simp only [fX11_isCalm_s114, nI_1], fun c hc => hno c (by omega)⟩
    · rw [if_neg (show ¬ (12 : Int64) < lN cc from fun w => by have := (pk_lLT (a := 12) (by decide) (by omega)).mp w; omega)]
      obtain ⟨s1, a1⟩ := m_get1 n k how s i ((x &&& (((15 : Int64) <<< sh4 i) ^^^ (-1))) ||| (lN cc <<< sh4 i)) (pt1 d i cc) hn hk hh hs hi (fun a ha => by
        rw [nb_put x (by omega) (by omega) (by omega)]
        unfold pt1
        split
        · rfl
        · exact hd a ha) st
      have hb2 := sh_le how s (pt1 d i cc) k i
      have hpt : pt1 d i cc i = cc := if_pos rfl
      have hfar2 : dst (shN how s (pt1 d i cc) k i) (w i) ≤ 15 := by unfold dst; split <;> omega
      have e54 : fX11_isCalm_s54 n K3 (fX11_isCalm_L45 n K3 j) (nI how) (nI s) wv x (nI k) (nI i) (lN (w i)) (lN (dst (shN how s d k i) (w i))) (lN cc) st = fX11_isCalm_s97 n K3 (fX11_isCalm_L45 n K3 j) (nI how) (nI s) wv x (nI k) (nI i) (lN (w i)) (lN (dst (shN how s d k i) (w i))) (lN cc) (lN (dst (shN how s (pt1 d i cc) k i) (w i))) s1 := by
        simp only [fX11_isCalm_s54]
        unfold sh4 at a1
        rw [a1]
        simp only [Option.bind_some, fX11_isCalm_s91, size_eq]
        rw [dst_l (by omega) (by omega)]
      rw [e54]
      simp only [fX11_isCalm_s97]
      by_cases r : dst (shN how s (pt1 d i cc) k i) (w i) < dst (shN how s d k i) (w i)
      · rw [if_neg (fun w => by have := (pk_lLE (by omega) (by omega)).mp w; omega)]
        right
        exact ⟨s1, rfl, cc, by omega, r⟩
      · rw [if_pos ((pk_lLE (by omega) (by omega)).mpr (by omega))]
        simp only [fX11_isCalm_s105, lN_1]
        exact ih (cc + 1) s1 (by omega) (by omega) (fun c hc => by
          by_cases e : c = cc
          · subst e; exact r
          · exact hno c (by omega))
theorem m_cal3 (n k how s : Nat) (wv x : Int64) (d w : Nat → Nat) (hn : 2 ^ 27 ≤ n) (hk : k ≤ 4) (hh : how ≤ 2) (hs : s ≤ 40) (hd : ∀ a, a < k → nb x a = d a) (hw : ∀ a, a < k → nb wv a = w a) : ∀ (j i : Nat) (st : St), i ≤ k → k - i < j → (∀ a, a < i → ∀ c, c ≤ 12 → ¬ nearer how s d w k a c) → ∃ (r : Int32) (st1 : St), fX11_isCalm_L3 n j (nI how) (nI s) wv x (nI k) (nI i) st = some (r, st1) ∧ ((r = 1 ∧ CalmP how s d w k) ∨ (r = 0 ∧ ¬ CalmP how s d w k)) := by
  have hw15 : ∀ a, a < k → w a ≤ 15 := fun a ha => by have := nb_lt wv a; have := hw a ha; omega
  intro j
  induction j with
  | zero => intro i _ _ hj; omega
  | succ j ih =>
    intro i st hi hj hno
    simp only [fX11_isCalm_L3, fX11_isCalm_s3]
    by_cases q : i = k
    · subst q
      rw [if_pos (nI_le (Nat.le_refl _) (by omega))]
      exact ⟨1, st, rfl, Or.inl ⟨rfl, hno⟩⟩
    · rw [if_neg (nI_ge (by omega) (by omega))]
      obtain ⟨s1, a1⟩ := m_get1 n k how s i x d hn hk hh hs (by omega) hd st
      have hb := sh_le how s d k i
      have hw1 := hw15 i (by omega)
      have hd1 : d i ≤ 15 := by have := nb_lt x i; have := hd i (by omega); omega
      simp only [fX11_isCalm_s10, a1, Option.bind_some, nb_eq, hw i (by omega), fX11_isCalm_s34, size_eq, fX11_isCalm_s40]
      rw [dst_l (by omega) (by omega)]
      rcases m_cal45 n k how s i wv x d w hn hk hh hs (by omega) hd hw15 (fX11_isCalm_L3 n j) n 0 s1 (by omega) (by omega) (fun c hc => by omega) with ⟨s2, b1, b2⟩ | ⟨s2, b1, c, hc, b2⟩
      · rw [show lN 0 = 0 from rfl] at b1
        rw [b1]
        exact ih (i + 1) s2 (by omega) (by omega) (fun a ha => by
          by_cases e : a = i
          · subst e; exact b2
          · exact hno a (by omega))
      · rw [show lN 0 = 0 from rfl] at b1
        rw [b1]
        exact ⟨0, s2, rfl, Or.inr ⟨rfl, fun h => h i (by omega) c hc b2⟩⟩
theorem m_isCalm (n k how s : Nat) (wv x : Int64) (d w : Nat → Nat) (hn : 2 ^ 27 ≤ n) (hk : k ≤ 4) (hh : how ≤ 2) (hs : s ≤ 40) (hd : ∀ a, a < k → nb x a = d a) (hw : ∀ a, a < k → nb wv a = w a) (st : St) : ∃ (r : Int32) (st1 : St), fX11_isCalm n (nI how) (nI s) wv x (nI k) st = some (r, st1) ∧ ((r = 1 ∧ CalmP how s d w k) ∨ (r = 0 ∧ ¬ CalmP how s d w k)) := by
  simp only [fX11_isCalm, fX11_isCalm_s0]
  exact m_cal3 n k how s wv x d w hn hk hh hs hd hw n 0 st (by omega) (by omega) (fun a ha => by omega)
