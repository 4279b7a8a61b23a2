/-! ===== rule: words ===== -/
def lt (w t : Nat) : Int32 := letters.getD (6 * w + t) 0
def wl (w : Nat) : Nat := [5, 4, 3, 4, 4, 4, 5, 3, 3].getD w 0
def wsN (w : Nat) : Nat := [0, 6, 11, 15, 20, 25, 30, 36, 40, 44].getD w 0
theorem wf1 : ∀ w, w < 9 → ∀ t, t < 5 → t < wl w → wch (nI (wsN w + t)) = lt w t ∧ lt w t ≠ 32 ∧ 0 < lt w t ∧ lt w t ≠ -1 ∧ lt w t ≠ 40 ∧ wsN w + t < 44 := by decide +kernel
theorem wf2 : ∀ w, w < 9 → wch (nI (wsN w + wl w)) = 32 ∧ wsN w + wl w < 44 ∧ wsN (w + 1) = wsN w + wl w + 1 ∧ 3 ≤ wl w ∧ wl w ≤ 5 := by decide +kernel
theorem wf3 : ∀ w, w < 9 → ∀ t, t < 6 → (lt w t = 0 ↔ wl w ≤ t) := by decide +kernel
theorem wf4 : ∀ w, w < 9 → ∀ v, v < 9 → w ≠ v → ∃ t, t < 5 ∧ t < wl w ∧ t < wl v ∧ lt w t ≠ lt v t := by decide +kernel
/-- the first t letters of word w are there -/
abbrev PWd (β : Nat → Int32) (w t : Nat) : Prop := t ≤ wl w ∧ ∀ i, i < t → β i = lt w i
theorem PWd.mono {β : Nat → Int32} {w t u : Nat} (h : PWd β w t) (hu : u ≤ t) : PWd β w u := ⟨by have := h.1; omega, fun i hi => h.2 i (by omega)⟩
theorem PWd.succ {β : Nat → Int32} {w t : Nat} (h : PWd β w t) : PWd β w (t + 1) ↔ (t < wl w ∧ β t = lt w t) := by
  constructor
  · intro q; exact ⟨by have := q.1; omega, q.2 t (by omega)⟩
  · intro q
    refine ⟨by omega, fun i hi => ?_⟩
    by_cases z : i = t
    · rw [z]; exact q.2
    · exact h.2 i (by omega)
theorem PWd.uniq {β : Nat → Int32} {w v : Nat} (hw : w < 9) (hv : v < 9) (h : PWd β w (wl w)) (g : PWd β v (wl v)) : w = v := by
  by_cases z : w = v
  · exact z
  · obtain ⟨t, -, h1, h2, h3⟩ := wf4 w hw v hv z
    exact absurd ((h.2 t h1).symm.trans (g.2 t h2)) h3
def mxx (a b : Nat) : Nat := if a < b then b else a
section
variable {T R n : Nat} {B Q : Nat → Int32}
/-- one letter -/
theorem c_wd1 (k w t f m : Nat) (fit : Int32) (hfit : fit = 0 ∨ fit = 1) (K : Int32 → Int32 → Int32 → Int32 → Int32 → St → Option (Int32 × St)) (c : St) (hB : T ≤ 120) (hC : CB T B c k) (hk : k ≤ 120) (hw : w < 9) (ht : t < wl w) (hf : f ≤ 5) (hm : m ≤ 5) : fX9_readWord_s12 n K (nI w) (nI f) (nI m) fit (nI (wsN w + t)) c = if fit = 1 ∧ bt B T (k + f) = lt w t then K (nI w) (nI (f + 1)) (nI (mxx m (f + 1))) 1 (nI (wsN w + t + 1)) c else K (nI w) (nI f) (nI m) 0 (nI (wsN w + t + 1)) c := by
  have hwl := wf2 w hw
  obtain ⟨e1, e2, e3, e4, e6, e5⟩ := wf1 w hw t (by omega) ht
  have el : fJ0_length_8abf5 n c = some (44, c) := rfl
  have ec : fJ0_charAt_5068e n (nI (wsN w + t)) c = some (lt w t, c) := by
    unfold fJ0_charAt_5068e
    rw [if_pos (inb_nI e5 (by decide)), e1]
  simp only [fX9_readWord_s12, el, Option.bind_some, fX9_readWord_s19, if_neg (show ¬ (44 : Int32) ≤ nI (wsN w + t) from nI_ge (b := 44) e5 (by decide)), fX9_readWord_s22, ec, fX9_readWord_s29, if_neg e2, fX9_readWord_s55, fX9_readWord_s73]
  have s119 : fX9_readWord_s119 n K (nI w) (nI f) (nI m) (nI (wsN w + t)) c = K (nI w) (nI f) (nI m) 0 (nI (wsN w + t + 1)) c := by simp only [fX9_readWord_s119, fX9_readWord_s122, nI_1]
  rcases hfit with rfl | rfl
  · rw [if_pos rfl, if_neg (fun q => absurd q.1 (by decide)), s119]
  · rw [if_neg (show ¬ (1 : Int32) = 0 by decide)]
    simp only [fX9_readWord_s78, hC.1, hC.2.1, nI_add]
    by_cases q : k + f < T
    · rw [if_neg (nI_ge q (by omega))]
      simp only [fX9_readWord_s91, hC.2.1, nI_add, inb_nI (show k + f < 120 by omega) (by decide), nI_clamp (show k + f < 2 ^ 31 by omega), if_true, hC.2.2 (k + f) q, bt_lt q]
      by_cases z : B (k + f) = lt w t
      · rw [if_pos z, if_pos ⟨trivial, z⟩]
        simp only [fX9_readWord_s107, fX9_readWord_s122, nI_1]
        congr 1
        unfold mxx
        by_cases y : m < f + 1
        · rw [if_pos y, if_pos (nI_lt y (by omega))]
        · rw [if_neg y, if_neg (nI_nlt (by omega) (by omega))]
      · rw [if_neg z, if_neg (fun y => z y.2), s119]
    · rw [if_pos (nI_le (by omega) (by omega)), bt_ge (by omega), if_neg (fun y => e4 y.2.symm), s119]
/-- the blank behind a word -/
theorem c_wd2 (k w f m : Nat) (fit : Int32) (hfit : fit = 0 ∨ fit = 1) (K : Int32 → Int32 → Int32 → Int32 → Int32 → St → Option (Int32 × St)) (c : St) (hC : CB T B c k) (hw : w < 9) : fX9_readWord_s12 n K (nI w) (nI f) (nI m) fit (nI (wsN w + wl w)) c = if fit = 1 then some (nI w, setI c 15 3 (nI (k + f))) else K (nI (w + 1)) 0 (nI m) 1 (nI (wsN (w + 1))) c := by
  obtain ⟨e1, e5, e6, -⟩ := wf2 w hw
  have el : fJ0_length_8abf5 n c = some (44, c) := rfl
  have ec : fJ0_charAt_5068e n (nI (wsN w + wl w)) c = some (32, c) := by
    unfold fJ0_charAt_5068e
    rw [if_pos (inb_nI e5 (by decide)), e1]
  rw [e6]
  simp only [fX9_readWord_s12, el, Option.bind_some, fX9_readWord_s19, if_neg (show ¬ (44 : Int32) ≤ nI (wsN w + wl w) from nI_ge (b := 44) e5 (by decide)), fX9_readWord_s22, ec, fX9_readWord_s29, if_true, fX9_readWord_s38]
  rcases hfit with rfl | rfl
  · rw [if_pos rfl, if_neg (show ¬ (0 : Int32) = 1 by decide)]
    simp only [fX9_readWord_s55, if_true, fX9_readWord_s62, fX9_readWord_s122, nI_1]
  · rw [if_neg (show ¬ (1 : Int32) = 0 by decide), if_pos rfl]
    simp only [fX9_readWord_s43, hC.2.1, nI_add, fX9_readWord_s53]
theorem c_wdN (k w f m : Nat) (c : St) (hB : T ≤ 120) (hC : CB T B c k) (hk : k ≤ 120) (hw : w < 9) (hf : f ≤ 5) (hm : m ≤ 5) : ∀ (d t : Nat), t + d = wl w → ∀ j, fX9_readWord_L12 n (j + (d + 1)) (nI w) (nI f) (nI m) 0 (nI (wsN w + t)) c = fX9_readWord_L12 n j (nI (w + 1)) 0 (nI m) 1 (nI (wsN (w + 1))) c := by
  intro d
  induction d with
  | zero =>
    intro t ht j
    show fX9_readWord_s12 n (fX9_readWord_L12 n j) _ _ _ _ _ c = _
    rw [show t = wl w by omega, c_wd2 k w f m 0 (Or.inl rfl) _ c hC hw, if_neg (by decide)]
  | succ d ih =>
    intro t ht j
    show fX9_readWord_s12 n (fX9_readWord_L12 n (j + (d + 1))) _ _ _ _ _ c = _
    rw [c_wd1 k w t f m 0 (Or.inl rfl) _ c hB hC hk hw (by omega) hf hm, if_neg (fun q => absurd q.1 (by decide))]
    exact ih (t + 1) (by omega) j
theorem c_wdY (k w m : Nat) (c : St) (hB : T ≤ 120) (hC : CB T B c k) (hk : k ≤ 120) (hw : w < 9) (hm : m ≤ 5) : ∀ (d t : Nat), t + d = wl w → PWd (fun i => bt B T (k + i)) w t → (PWd (fun i => bt B T (k + i)) w (wl w) ∧ ∀ j, fX9_readWord_L12 n (j + (d + 1)) (nI w) (nI t) (nI (mxx m t)) 1 (nI (wsN w + t)) c = some (nI w, setI c 15 3 (nI (k + wl w)))) ∨ (∃ f, f < wl w ∧ PWd (fun i => bt B T (k + i)) w f ∧ ¬ PWd (fun i => bt B T (k + i)) w (f + 1) ∧ ∀ j, fX9_readWord_L12 n (j + (d + 1)) (nI w) (nI t) (nI (mxx m t)) 1 (nI (wsN w + t)) c = fX9_readWord_L12 n j (nI (w + 1)) 0 (nI (mxx m f)) 1 (nI (wsN (w + 1))) c) := by
  have hwl := (wf2 w hw).2.2.2
  intro d
  induction d with
  | zero =>
    intro t ht hP
    have e : t = wl w := by omega
    rw [e] at hP ⊢
    refine Or.inl ⟨hP, fun j => ?_⟩
    show fX9_readWord_s12 n (fX9_readWord_L12 n j) _ _ _ _ _ c = _
    rw [c_wd2 k w (wl w) (mxx m (wl w)) 1 (Or.inr rfl) _ c hC hw, if_pos rfl]
  | succ d ih =>
    intro t ht hP
    have hmx : mxx m t ≤ 5 := by unfold mxx; split <;> omega
    have hmm : mxx (mxx m t) (t + 1) = mxx m (t + 1) := by unfold mxx; split <;> split <;> (try split) <;> omega
    have e0 : ∀ j, fX9_readWord_L12 n (j + (d + 1 + 1)) (nI w) (nI t) (nI (mxx m t)) 1 (nI (wsN w + t)) c = fX9_readWord_s12 n (fX9_readWord_L12 n (j + (d + 1))) (nI w) (nI t) (nI (mxx m t)) 1 (nI (wsN w + t)) c := fun j => rfl
    by_cases z : bt B T (k + t) = lt w t
    · have hP1 : PWd (fun i => bt B T (k + i)) w (t + 1) := hP.succ.mpr ⟨by omega, z⟩
      have e1 : ∀ j, fX9_readWord_L12 n (j + (d + 1 + 1)) (nI w) (nI t) (nI (mxx m t)) 1 (nI (wsN w + t)) c = fX9_readWord_L12 n (j + (d + 1)) (nI w) (nI (t + 1)) (nI (mxx m (t + 1))) 1 (nI (wsN w + (t + 1))) c := fun j => by
        rw [e0, c_wd1 k w t t (mxx m t) 1 (Or.inr rfl) _ c hB hC hk hw (by omega) (by omega) hmx, if_pos ⟨rfl, z⟩, hmm]
        rfl
      rcases ih (t + 1) (by omega) hP1 with ⟨g1, g2⟩ | ⟨f, g1, g2, g3, g4⟩
      · exact Or.inl ⟨g1, fun j => by rw [e1, g2]⟩
      · exact Or.inr ⟨f, g1, g2, g3, fun j => by rw [e1, g4]⟩
    · refine Or.inr ⟨t, by omega, hP, fun q => z (hP.succ.mp q).2, fun j => ?_⟩
      rw [e0, c_wd1 k w t t (mxx m t) 1 (Or.inr rfl) _ c hB hC hk hw (by omega) (by omega) hmx, if_neg (fun q => z q.2)]
      exact c_wdN k w t (mxx m t) c hB hC hk hw (by omega) hmx d (t + 1) (by omega) j
/-- the class's reading of a word -/
theorem c_word (k : Nat) (c : St) (hn : 200 ≤ n) (hB : T ≤ 120) (hC : CB T B c k) (hk : k ≤ 120) : (∃ w, w < 9 ∧ PWd (fun i => bt B T (k + i)) w (wl w) ∧ fX9_readWord n c = some (nI w, setI c 15 3 (nI (k + wl w)))) ∨ ((∀ w, w < 9 → ¬ PWd (fun i => bt B T (k + i)) w (wl w)) ∧ ∃ m, m ≤ 5 ∧ (∃ w, w < 9 ∧ PWd (fun i => bt B T (k + i)) w m) ∧ (∀ w, w < 9 → ¬ PWd (fun i => bt B T (k + i)) w (m + 1)) ∧ fX9_readWord n c = some (-1, setI c 15 3 (nI (k + m)))) := by
  have main : ∀ (d w : Nat), w + d = 9 → ∀ m, m ≤ 5 → (∀ v, v < w → ¬ PWd (fun i => bt B T (k + i)) v (wl v)) → (m = 0 ∨ ∃ v, v < w ∧ PWd (fun i => bt B T (k + i)) v m) → (∀ v, v < w → ¬ PWd (fun i => bt B T (k + i)) v (m + 1)) → ∀ j, 44 - wsN w < j → (∃ u, u < 9 ∧ PWd (fun i => bt B T (k + i)) u (wl u) ∧ fX9_readWord_L12 n j (nI w) 0 (nI m) 1 (nI (wsN w)) c = some (nI u, setI c 15 3 (nI (k + wl u)))) ∨ ((∀ u, u < 9 → ¬ PWd (fun i => bt B T (k + i)) u (wl u)) ∧ ∃ m', m' ≤ 5 ∧ (∃ u, u < 9 ∧ PWd (fun i => bt B T (k + i)) u m') ∧ (∀ u, u < 9 → ¬ PWd (fun i => bt B T (k + i)) u (m' + 1)) ∧ fX9_readWord_L12 n j (nI w) 0 (nI m) 1 (nI (wsN w)) c = some (-1, setI c 15 3 (nI (k + m')))) := by
    intro d
    induction d with
    | zero =>
      intro w hw m hm h1 h2 h3 j hj
      have e9 : w = 9 := by omega
      subst e9
      obtain ⟨i, rfl⟩ : ∃ i, j = i + 1 := ⟨j - 1, by omega⟩
      refine Or.inr ⟨h1, m, hm, ?_, h3, ?_⟩
      · rcases h2 with h2 | h2
        · exact ⟨0, by decide, by rw [h2]; exact ⟨Nat.zero_le _, fun i hi => absurd hi (by omega)⟩⟩
        · exact h2
      · have el : fJ0_length_8abf5 n c = some (44, c) := rfl
        simp only [fX9_readWord_L12, fX9_readWord_s12, el, Option.bind_some, fX9_readWord_s19, if_pos (show (44 : Int32) ≤ nI (wsN 9) by decide), fX9_readWord_s128, hC.2.1, nI_add, fX9_readWord_s138]
    | succ d ih =>
      intro w hw m hm h1 h2 h3 j hj
      have hw9 : w < 9 := by omega
      obtain ⟨-, w5, w6, w7, w8⟩ := wf2 w hw9
      obtain ⟨i, rfl⟩ : ∃ i, j = i + (wl w + 1) := ⟨j - (wl w + 1), by omega⟩
      have m0 : mxx m 0 = m := by unfold mxx; rw [if_neg (by omega)]
      have hY := c_wdY (n := n) k w m c hB hC hk hw9 hm (wl w) 0 (by omega) ⟨Nat.zero_le _, fun i hi => absurd hi (by omega)⟩
      rw [m0, show wsN w + 0 = wsN w from rfl, show nI 0 = 0 from rfl] at hY
      rcases hY with ⟨g1, g2⟩ | ⟨f, g1, g2, g3, g4⟩
      · exact Or.inl ⟨w, hw9, g1, g2 i⟩
      · rw [g4 i]
        refine ih (w + 1) (by omega) (mxx m f) (by unfold mxx; split <;> omega) (fun v hv => ?_) ?_ (fun v hv => ?_) i (by rw [w6]; omega)
        · by_cases z : v = w
          · subst z; exact fun q => g3 (q.mono (by omega))
          · exact h1 v (by omega)
        · unfold mxx
          by_cases z : m < f
          · rw [if_pos z]; exact Or.inr ⟨w, by omega, g2⟩
          · rw [if_neg z]
            rcases h2 with h2 | ⟨v, hv, hp⟩
            · exact Or.inl h2
            · exact Or.inr ⟨v, by omega, hp⟩
        · unfold mxx
          by_cases z : m < f
          · rw [if_pos z]
            by_cases y : v = w
            · subst y; exact g3
            · exact fun q => h3 v (by omega) (q.mono (by omega))
          · rw [if_neg z]
            by_cases y : v = w
            · subst y; exact fun q => g3 (q.mono (by omega))
            · exact h3 v (by omega)
  have := main 9 0 (by omega) 0 (by omega) (fun v hv => absurd hv (by omega)) (Or.inl rfl) (fun v hv => absurd hv (by omega)) n (by show 44 - 0 < n; omega)
  simp only [fX9_readWord, fX9_readWord_s0]
  exact this
end
