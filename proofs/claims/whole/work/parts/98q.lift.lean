/-! ===== what keeps Inv keeps Inv2; the start ===== -/
theorem Ext_ag {st st1 : St} (h : Ag [22, 23, 61, 62] [(53, 10)] [145, 149, 150] [] st st1) (hc : Ext st) : Ext st1 := by
  obtain ⟨⟨r, f⟩, ⟨rJ, fJ⟩⟩ := h
  unfold Ext at hc ⊢
  simp only [r 22 (by decide), r 23 (by decide), r 61 (by decide), r 62 (by decide), (show st1.1 53 10 = st.1 53 10 from f (53, 10) (by decide)), rJ 145 (by decide), rJ 149 (by decide), rJ 150 (by decide)]
  exact hc
theorem Ext_same {st st1 : St} {LI LJ : List (Nat × Option Nat)} (h : Same LI LJ st st1) (hI : okL [22, 23, 61, 62] [(53, 10)] LI = true) (hJ : okL [145, 149, 150] [] LJ = true) (hc : Ext st) : Ext st1 := Ext_ag (Ag.of h hI hJ) hc
def Lset : List (Nat × Option Nat) := [(6, none), (7, none), (8, none), (9, none)]
theorem zset82 {n : Nat} {v1 v3 : Int32} {rq : Nat} {st : St} {q : Int32 × St} (hr : (rq, none) ∈ Lset) (hf : fX10_set_s82 n v1 v3 rq st = some q) : Same Lset [] st q.2 := by
  unfold fX10_set_s82 fX10_set_s93 at hf
  have h2 := (gd (gd hf).2).2
  cases h2
  exact same_I (Or.inl hr)
theorem zset66 {n : Nat} {v1 v3 v5 k0 : Int32} {rq : Nat} {st : St} {q : Int32 × St} (hr : (rq, none) ∈ Lset) (hf : fX10_set_s66 n v1 v3 rq v5 k0 st = some q) : Same Lset [] st q.2 := by
  simp only [fX10_set_s66, pw, Option.bind_some, fX10_set_s76] at hf
  by_cases h : b1 (v5 ≤ v3 ∧ v3 ≤ k0) = 0
  · rw [if_pos h] at hf
    simp only [fX10_set_s79] at hf
    cases hf; exact Same.rf
  · rw [if_neg h] at hf; exact zset82 hr hf
theorem zset30 {n : Nat} {v1 v2 v3 : Int32} {rq : Nat} {st : St} {q : Int32 × St} (hr : (rq, none) ∈ Lset) (hf : fX10_set_s30 n v1 v2 v3 rq st = some q) : Same Lset [] st q.2 := by
  unfold fX10_set_s30 fX10_set_s41 fX10_set_s37 fX10_set_s42 fX10_set_s48 fX10_set_s53 fX10_set_s58 fX10_set_s64 at hf
  repeat' split at hf
  all_goals exact zset66 hr hf
theorem zX10_set (n : Nat) (a1 a2 a3 : Int32) (st : St) (q : Int32 × St) (hf : fX10_set n a1 a2 a3 st = some q) : Same Lset [] st q.2 := by
  simp only [fX10_set, fX10_set_s0, phas, Option.bind_some, fX10_set_s8, fX10_set_s11, pw, fX10_set_s17, fX10_set_s22, fX6_settings, fX6_settings_s0, fX6_settings_s28, fX6_settings_s33, fX6_settings_s38, fX6_settings_s43, fX10_set_s20] at hf
  by_cases h1 : b1 (0 ≤ a1 ∧ a1 < st.1 1 9) = 0
  · rw [if_pos h1] at hf; cases hf; exact Same.rf
  · rw [if_neg h1] at hf
    by_cases h2 : b1 ((0 : Int32) ≤ a2 ∧ a2 ≤ 3) = 0
    · rw [if_pos h2] at hf; cases hf; exact Same.rf
    · rw [if_neg h2] at hf
      by_cases e0 : a2 = 0
      · rw [if_pos e0] at hf; exact zset30 (mm2 0 rfl) hf
      · rw [if_neg e0] at hf
        by_cases e1 : a2 = 1
        · rw [if_pos e1] at hf; exact zset30 (mm2 1 rfl) hf
        · rw [if_neg e1] at hf
          by_cases e2 : a2 = 2
          · rw [if_pos e2] at hf; exact zset30 (mm2 2 rfl) hf
          · rw [if_neg e2] at hf; exact zset30 (mm2 3 rfl) hf
theorem L_stage (n : Nat) (h : SP_stage n Inv) : SP_stage n Inv2 := by
  intro a0 a1 a2 a3 a4 st hI
  obtain ⟨r, st1, st2, h1, h2, h3⟩ := h a0 a1 a2 a3 a4 st hI.1
  exact ⟨r, st1, st2, h1, h2, h3, Ext_same (zX11_stage n _ _ _ _ _ st1 _ h2) rfl rfl (Ext_same (zX10_stage n _ _ _ _ _ st _ h1) rfl rfl hI.2)⟩
theorem L_set (n : Nat) (h : SP_set n Inv) : SP_set n Inv2 := by
  intro a0 a1 a2 st hI
  obtain ⟨r, st1, st2, h1, h2, h3⟩ := h a0 a1 a2 st hI.1
  exact ⟨r, st1, st2, h1, h2, h3, Ext_same (zX11_set n _ _ _ st1 _ h2) rfl rfl (Ext_same (zX10_set n _ _ _ st _ h1) rfl rfl hI.2)⟩
theorem L_use (n : Nat) (h : SP_use n Inv) : SP_use n Inv2 := by
  intro a0 a1 st hI
  obtain ⟨r, st1, st2, h1, h2, h3⟩ := h a0 a1 st hI.1
  exact ⟨r, st1, st2, h1, h2, h3, Ext_same (zX11_use n _ _ st1 _ h2) rfl rfl (Ext_same (zX10_use n _ _ st _ h1) rfl rfl hI.2)⟩
theorem L_allot (n : Nat) (h : SP_allot n Inv) : SP_allot n Inv2 := by
  intro a0 st hI
  obtain ⟨r, st1, st2, h1, h2, h3⟩ := h a0 st hI.1
  exact ⟨r, st1, st2, h1, h2, h3, Ext_same (zX11_allot n _ st1 _ h2) rfl rfl (Ext_same (zX10_allot n _ st _ h1) rfl rfl hI.2)⟩
theorem L_about (n : Nat) (h : SP_about n Inv) : SP_about n Inv2 := by
  intro a0 a1 st hI
  obtain ⟨r, st1, st2, h1, h2, h3⟩ := h a0 a1 st hI.1
  exact ⟨r, st1, st2, h1, h2, h3, Ext_same (zX11_about n _ _ st1 _ h2) rfl rfl (Ext_same (zX10_about n _ _ st _ h1) rfl rfl hI.2)⟩
theorem L_place (n : Nat) (h : SP_place n Inv) : SP_place n Inv2 := by
  intro a0 st hI
  obtain ⟨r, st1, st2, h1, h2, h3⟩ := h a0 st hI.1
  exact ⟨r, st1, st2, h1, h2, h3, Ext_same (zX11_place n _ st1 _ h2) rfl rfl (Ext_same (zX10_place n _ st _ h1) rfl rfl hI.2)⟩
theorem L_slot (n : Nat) (h : SP_slot n Inv) : SP_slot n Inv2 := by
  intro a0 a1 st hI
  obtain ⟨r, st1, st2, h1, h2, h3⟩ := h a0 a1 st hI.1
  exact ⟨r, st1, st2, h1, h2, h3, Ext_same (zX11_slot n _ _ st1 _ h2) rfl rfl (Ext_same (zX10_slot n _ _ st _ h1) rfl rfl hI.2)⟩
theorem L_owed (n : Nat) (h : SP_owed n Inv) : SP_owed n Inv2 := by
  intro a0 a1 st hI
  obtain ⟨r, st1, st2, h1, h2, h3⟩ := h a0 a1 st hI.1
  exact ⟨r, st1, st2, h1, h2, h3, Ext_same (zX11_owed n _ _ st1 _ h2) rfl rfl (Ext_same (zX10_owed n _ _ st _ h1) rfl rfl hI.2)⟩
theorem L_cost (n : Nat) (h : SP_cost n Inv) : SP_cost n Inv2 := by
  intro a0 st hI
  obtain ⟨r, st1, st2, h1, h2, h3⟩ := h a0 st hI.1
  exact ⟨r, st1, st2, h1, h2, h3, Ext_same (zX11_cost n _ st1 _ h2) rfl rfl (Ext_same (zX10_cost n _ st _ h1) rfl rfl hI.2)⟩
theorem L_kept (n : Nat) (h : SP_kept n Inv) : SP_kept n Inv2 := by
  intro a0 st hI
  obtain ⟨r, st1, st2, h1, h2, h3⟩ := h a0 st hI.1
  exact ⟨r, st1, st2, h1, h2, h3, Ext_same (zX11_kept n _ st1 _ h2) rfl rfl (Ext_same (zX10_kept n _ st _ h1) rfl rfl hI.2)⟩
theorem L_demand (n : Nat) (h : SP_demand n Inv) : SP_demand n Inv2 := by
  intro a0 a1 st hI
  obtain ⟨r, st1, st2, h1, h2, h3⟩ := h a0 a1 st hI.1
  exact ⟨r, st1, st2, h1, h2, h3, Ext_same (zX11_demand n _ _ st1 _ h2) rfl rfl (Ext_same (zX10_demand n _ _ st _ h1) rfl rfl hI.2)⟩
theorem L_feed (n : Nat) (h : SP_feed n Inv) : SP_feed n Inv2 := by
  intro a0 a1 st hI
  obtain ⟨r, st1, st2, h1, h2, h3⟩ := h a0 a1 st hI.1
  exact ⟨r, st1, st2, h1, h2, h3, Ext_same (zX11_feed n _ _ st1 _ h2) rfl rfl (Ext_same (zX10_feed n _ _ st _ h1) rfl rfl hI.2)⟩
theorem L_rule (n : Nat) (h : SP_rule n Inv) : SP_rule n Inv2 := by
  intro st hI
  obtain ⟨r, st1, st2, h1, h2, h3⟩ := h  st hI.1
  exact ⟨r, st1, st2, h1, h2, h3, Ext_same (zX11_rule n  st1 _ h2) rfl rfl (Ext_same (zX10_rule n  st _ h1) rfl rfl hI.2)⟩
theorem L_worth (n : Nat) (h : SP_worth n Inv) : SP_worth n Inv2 := by
  intro a0 a1 st hI
  obtain ⟨r, st1, st2, h1, h2, h3⟩ := h a0 a1 st hI.1
  exact ⟨r, st1, st2, h1, h2, h3, Ext_same (zX11_worth n _ _ st1 _ h2) rfl rfl (Ext_same (zX10_worth n _ _ st _ h1) rfl rfl hI.2)⟩
theorem L_swing (n : Nat) (h : SP_swing n Inv) : SP_swing n Inv2 := by
  intro a0 a1 a2 st hI
  obtain ⟨r, st1, st2, h1, h2, h3⟩ := h a0 a1 a2 st hI.1
  exact ⟨r, st1, st2, h1, h2, h3, Ext_same (zX11_swing n _ _ _ st1 _ h2) rfl rfl (Ext_same (zX10_swing n _ _ _ st _ h1) rfl rfl hI.2)⟩
theorem L_gain (n : Nat) (h : SP_gain n Inv) : SP_gain n Inv2 := by
  intro a0 a1 a2 st hI
  obtain ⟨r, st1, st2, h1, h2, h3⟩ := h a0 a1 a2 st hI.1
  exact ⟨r, st1, st2, h1, h2, h3, Ext_same (zX11_gain n _ _ _ st1 _ h2) rfl rfl (Ext_same (zX10_gain n _ _ _ st _ h1) rfl rfl hI.2)⟩
theorem L_straight (n : Nat) (h : SP_straight n Inv) : SP_straight n Inv2 := by
  intro a0 a1 a2 st hI
  obtain ⟨r, st1, st2, h1, h2, h3⟩ := h a0 a1 a2 st hI.1
  exact ⟨r, st1, st2, h1, h2, h3, Ext_same (zX11_straight n _ _ _ st1 _ h2) rfl rfl (Ext_same (zX10_straight n _ _ _ st _ h1) rfl rfl hI.2)⟩
theorem L_echo (n : Nat) (h : SP_echo n Inv) : SP_echo n Inv2 := by
  intro a0 a1 st hI
  obtain ⟨r, st1, st2, h1, h2, h3⟩ := h a0 a1 st hI.1
  exact ⟨r, st1, st2, h1, h2, h3, Ext_same (zX11_echo n _ _ st1 _ h2) rfl rfl (Ext_same (zX10_echo n _ _ st _ h1) rfl rfl hI.2)⟩
theorem L_pole (n : Nat) (h : SP_pole n Inv) : SP_pole n Inv2 := by
  intro a0 a1 a2 st hI
  obtain ⟨r, st1, st2, h1, h2, h3⟩ := h a0 a1 a2 st hI.1
  exact ⟨r, st1, st2, h1, h2, h3, Ext_same (zX11_pole n _ _ _ st1 _ h2) rfl rfl (Ext_same (zX10_pole n _ _ _ st _ h1) rfl rfl hI.2)⟩
theorem L_loud (n : Nat) (h : SP_loud n Inv) : SP_loud n Inv2 := by
  intro a0 a1 st hI
  obtain ⟨r, st1, st2, h1, h2, h3⟩ := h a0 a1 st hI.1
  exact ⟨r, st1, st2, h1, h2, h3, Ext_same (zX11_loud n _ _ st1 _ h2) rfl rfl (Ext_same (zX10_loud n _ _ st _ h1) rfl rfl hI.2)⟩
theorem L_steady (n : Nat) (h : SP_steady n Inv) : SP_steady n Inv2 := by
  intro a0 a1 st hI
  obtain ⟨r, st1, st2, h1, h2, h3⟩ := h a0 a1 st hI.1
  exact ⟨r, st1, st2, h1, h2, h3, Ext_same (zX11_steady n _ _ st1 _ h2) rfl rfl (Ext_same (zX10_steady n _ _ st _ h1) rfl rfl hI.2)⟩
theorem L_chances (n : Nat) (h : SP_chances n Inv) : SP_chances n Inv2 := by
  intro a0 st hI
  obtain ⟨r, st1, st2, h1, h2, h3⟩ := h a0 st hI.1
  exact ⟨r, st1, st2, h1, h2, h3, Ext_same (zX11_chances n _ st1 _ h2) rfl rfl (Ext_same (zX10_chances n _ st _ h1) rfl rfl hI.2)⟩
theorem L_chance (n : Nat) (h : SP_chance n Inv) : SP_chance n Inv2 := by
  intro a0 a1 st hI
  obtain ⟨r, st1, st2, h1, h2, h3⟩ := h a0 a1 st hI.1
  exact ⟨r, st1, st2, h1, h2, h3, Ext_same (zX11_chance n _ _ st1 _ h2) rfl rfl (Ext_same (zX10_chance n _ _ st _ h1) rfl rfl hI.2)⟩
theorem L_level (n : Nat) (h : SP_level n Inv) : SP_level n Inv2 := by
  intro a0 a1 a2 st hI
  obtain ⟨r, st1, st2, h1, h2, h3⟩ := h a0 a1 a2 st hI.1
  exact ⟨r, st1, st2, h1, h2, h3, Ext_same (zX11_level n _ _ _ st1 _ h2) rfl rfl (Ext_same (zX10_level n _ _ _ st _ h1) rfl rfl hI.2)⟩
theorem L_levelCost (n : Nat) (h : SP_levelCost n Inv) : SP_levelCost n Inv2 := by
  intro a0 a1 a2 a3 st hI
  obtain ⟨r, st1, st2, h1, h2, h3⟩ := h a0 a1 a2 a3 st hI.1
  exact ⟨r, st1, st2, h1, h2, h3, Ext_same (zX11_levelCost n _ _ _ _ st1 _ h2) rfl rfl (Ext_same (zX10_levelCost n _ _ _ _ st _ h1) rfl rfl hI.2)⟩
theorem L_worstAt (n : Nat) (h : SP_worstAt n Inv) : SP_worstAt n Inv2 := by
  intro a0 st hI
  obtain ⟨r, st1, st2, h1, h2, h3⟩ := h a0 st hI.1
  exact ⟨r, st1, st2, h1, h2, h3, Ext_same (zX11_worstAt n _ st1 _ h2) rfl rfl (Ext_same (zX10_worstAt n _ st _ h1) rfl rfl hI.2)⟩
theorem L_gets (n : Nat) (h : SP_gets n Inv) : SP_gets n Inv2 := by
  intro a0 a1 a2 a3 a4 st hI
  obtain ⟨r, st1, st2, h1, h2, h3⟩ := h a0 a1 a2 a3 a4 st hI.1
  exact ⟨r, st1, st2, h1, h2, h3, Ext_same (zX11_gets n _ _ _ _ _ st1 _ h2) rfl rfl (Ext_same (zX10_gets n _ _ _ _ _ st _ h1) rfl rfl hI.2)⟩
theorem L_calm (n : Nat) (h : SP_calm n Inv) : SP_calm n Inv2 := by
  intro a0 a1 a2 a3 a4 st hI
  obtain ⟨r, st1, st2, h1, h2, h3⟩ := h a0 a1 a2 a3 a4 st hI.1
  exact ⟨r, st1, st2, h1, h2, h3, Ext_same (zX11_calm n _ _ _ _ _ st1 _ h2) rfl rfl (Ext_same (zX10_calm n _ _ _ _ _ st _ h1) rfl rfl hI.2)⟩
theorem L_calmest (n : Nat) (h : SP_calmest n Inv) : SP_calmest n Inv2 := by
  intro a0 a1 a2 a3 st hI
  obtain ⟨r, st1, st2, h1, h2, h3⟩ := h a0 a1 a2 a3 st hI.1
  exact ⟨r, st1, st2, h1, h2, h3, Ext_same (zX11_calmest n _ _ _ _ st1 _ h2) rfl rfl (Ext_same (zX10_calmest n _ _ _ _ st _ h1) rfl rfl hI.2)⟩
theorem L_count (n : Nat) (h : SP_count n Inv) : SP_count n Inv2 := by
  intro a0 st hI
  obtain ⟨r, st1, st2, h1, h2, h3⟩ := h a0 st hI.1
  exact ⟨r, st1, st2, h1, h2, h3, Ext_same (zX11_count n _ st1 _ h2) rfl rfl (Ext_same (zX10_count n _ st _ h1) rfl rfl hI.2)⟩
theorem Inv_st0 : Inv st0 := by
  refine ⟨0, 0, ⟨by decide, rfl, rfl, ⟨rfl, rfl, rfl, rfl, rfl, rfl, rfl, rfl, rfl⟩, ⟨0, by decide, rfl, rfl⟩, ⟨0, by decide, rfl, rfl⟩, rfl, fun s hs => absurd hs (by omega)⟩, ⟨by decide, rfl, rfl, fun r hr => absurd hr (by omega)⟩, ⟨0, by decide, rfl, rfl, fun j hj => absurd hj (by omega)⟩, ?_, ?_, ?_, ?_, ?_, ?_⟩
  · refine ⟨0, 0, 0, 0, fun _ => 0, fun _ _ => 0, fun _ => 0, fun _ => 0, fun _ => 0, fun _ _ => 0, fun _ _ => 0, by decide, by decide, fun _ => rfl, ?_, fun s u _ hu => absurd hu (by omega)⟩
    refine ⟨⟨rfl, rfl, rfl, rfl, rfl, rfl⟩, fun s _ => ⟨rfl, rfl⟩, fun s i _ _ => ⟨rfl, rfl⟩, fun s _ => rfl, fun s _ => ?_, fun c _ => rfl, fun s c _ _ => ?_, fun c _ => ?_, fun c d _ _ => ?_, fun s _ => ⟨rfl, rfl⟩, fun s u _ hu => absurd hu (by omega), fun s _ => ⟨rfl, rfl⟩, fun s _ => rfl, fun s _ _ => ⟨rfl, fun _ => rfl, rfl, rfl, rfl, rfl, fun _ => ⟨rfl, rfl⟩⟩, fun s _ _ => rfl, rfl, ⟨rfl, by decide, fun _ _ => Nat.zero_le _, fun _ => Nat.zero_le _, fun _ => Nat.zero_le _, fun _ _ => Nat.zero_le _, fun _ => Nat.zero_le _⟩⟩
    · rw [sumN_congr (g := fun _ => 0) 8 (fun c _ => by rw [if_neg (by omega)]), sumN_zF]; rfl
    · have : (if c = s then 0 else if c < 0 ∧ c ≠ 0 ∧ st0.1 3 c = nI s then 0 else 0) = 0 := by split <;> first | rfl | (split <;> rfl)
      rw [this]; rfl
    · rw [sumN_congr (g := fun _ => 0) 4 (fun e _ => pend0 _ _ _ e), sumN_zF]
      split <;> rfl
    · rw [pend0]
      split <;> rfl
  · exact ⟨fun s _ => ⟨rfl, ⟨0, by decide, rfl⟩, fun _ => rfl⟩, fun s _ => rfl⟩
  · exact ⟨1, 1, 1, 1, 1, by decide, by decide, by decide, ⟨rfl, rfl, rfl, rfl, rfl⟩, ⟨rfl, rfl, rfl, rfl, rfl⟩, ⟨rfl, rfl, rfl, rfl⟩, ⟨rfl, rfl, rfl⟩, rfl, rfl⟩
  · intro d hd
    refine ⟨rfl, 1, by decide, ?_⟩
    match d, hd with
    | 0, _ => rfl
    | 1, _ => rfl
    | 2, _ => rfl
    | 3, _ => rfl
    | 4, _ => rfl
  · exact ⟨0, by decide, rfl, rfl, fun i hi => absurd hi (by omega)⟩
  · have : ∀ i, i < 54 → st0.1 156 i = letters.getD i 0 := by decide +kernel
    exact this
theorem Inv2_st0 : Inv2 st0 := ⟨Inv_st0, 0, by decide, rfl, fun s _ => ⟨0, by decide, rfl⟩, fun s r _ _ _ => ⟨rfl, rfl⟩, fun s r _ _ _ => ⟨rfl, rfl, rfl, rfl⟩⟩
