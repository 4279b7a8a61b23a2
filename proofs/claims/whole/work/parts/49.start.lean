def st0I : Nat → Nat → Int32 := fun id => match id with
  | 38 => upd (upd (upd (upd (upd (fun _ => 0) (0 : Int32).toNatClampNeg 1) (1 : Int32).toNatClampNeg 1) (2 : Int32).toNatClampNeg 1) (3 : Int32).toNatClampNeg 1) (4 : Int32).toNatClampNeg 1
  | 130 => fun k => match k with | 44 => 1 | _ => 0
  | 156 => upd (upd (upd (upd (upd (upd (upd (upd (upd (upd (upd (upd (upd (upd (upd (upd (upd (upd (upd (upd (upd (upd (upd (upd (upd (upd (upd (upd (upd (upd (upd (upd (upd (upd (upd (upd (upd (upd (upd (upd (upd (upd (upd (upd (upd (upd (upd (upd (upd (upd (upd (upd (upd (upd (fun _ => 0) (0 : Int32).toNatClampNeg 115) (1 : Int32).toNatClampNeg 116) (2 : Int32).toNatClampNeg 111) (3 : Int32).toNatClampNeg 99) (4 : Int32).toNatClampNeg 107) (5 : Int32).toNatClampNeg 0) (6 : Int32).toNatClampNeg 111) (7 : Int32).toNatClampNeg 119) (8 : Int32).toNatClampNeg 101) (9 : Int32).toNatClampNeg 100) (10 : Int32).toNatClampNeg 0) (11 : Int32).toNatClampNeg 0) (12 : Int32).toNatClampNeg 119) (13 : Int32).toNatClampNeg 97) (14 : Int32).toNatClampNeg 121) (15 : Int32).toNatClampNeg 0) (16 : Int32).toNatClampNeg 0) (17 : Int32).toNatClampNeg 0) (18 : Int32).toNatClampNeg 115) (19 : Int32).toNatClampNeg 101) (20 : Int32).toNatClampNeg 101) (21 : Int32).toNatClampNeg 110) (22 : Int32).toNatClampNeg 0) (23 : Int32).toNatClampNeg 0) (24 : Int32).toNatClampNeg 109) (25 : Int32).toNatClampNeg 101) (26 : Int32).toNatClampNeg 97) (27 : Int32).toNatClampNeg 110) (28 : Int32).toNatClampNeg 0) (29 : Int32).toNatClampNeg 0) (30 : Int32).toNatClampNeg 119) (31 : Int32).toNatClampNeg 101) (32 : Int32).toNatClampNeg 101) (33 : Int32).toNatClampNeg 107) (34 : Int32).toNatClampNeg 0) (35 : Int32).toNatClampNeg 0) (36 : Int32).toNatClampNeg 112) (37 : Int32).toNatClampNeg 108) (38 : Int32).toNatClampNeg 97) (39 : Int32).toNatClampNeg 99) (40 : Int32).toNatClampNeg 101) (41 : Int32).toNatClampNeg 0) (42 : Int32).toNatClampNeg 109) (43 : Int32).toNatClampNeg 105) (44 : Int32).toNatClampNeg 110) (45 : Int32).toNatClampNeg 0) (46 : Int32).toNatClampNeg 0) (47 : Int32).toNatClampNeg 0) (48 : Int32).toNatClampNeg 109) (49 : Int32).toNatClampNeg 97) (50 : Int32).toNatClampNeg 120) (51 : Int32).toNatClampNeg 0) (52 : Int32).toNatClampNeg 0) (53 : Int32).toNatClampNeg 0
  | 165 => upd (upd (upd (upd (upd (fun _ => 0) (0 : Int32).toNatClampNeg 1) (1 : Int32).toNatClampNeg 1) (2 : Int32).toNatClampNeg 1) (3 : Int32).toNatClampNeg 1) (4 : Int32).toNatClampNeg 1
  | _ => fun _ => 0
def st0J : Nat → Nat → Int64 := fun id => match id with
  | 25 => fun k => match k with | 0 => 1 | 1 => 1 | _ => 0
  | 26 => fun k => match k with | 0 => 1 | 1 => 1 | _ => 0
  | 27 => fun k => match k with | 0 => 1 | 1 => 1 | _ => 0
  | 28 => fun k => match k with | 0 => 1 | 1 => 1 | _ => 0
  | 29 => fun k => match k with | 1 => 1 | _ => 0
  | 30 => fun k => match k with | 1 => 1 | _ => 0
  | 31 => fun k => match k with | 1 => 1 | _ => 0
  | 32 => fun k => match k with | 1 => 1 | _ => 0
  | 33 => fun k => match k with | 1 => 1 | _ => 0
  | 34 => fun k => match k with | 1 => 1 | _ => 0
  | 35 => fun k => match k with | 1 => 1 | _ => 0
  | 36 => fun k => match k with | 1 => 1 | _ => 0
  | 130 => fun k => match k with | 40 => 1 | 41 => 1 | 42 => 1 | 43 => 1 | _ => 0
  | 161 => vp_updL (vp_updL (vp_updL (fun _ => 0) (0 : Int32).toNatClampNeg 1) (1 : Int32).toNatClampNeg 0) (2 : Int32).toNatClampNeg 0
  | 162 => vp_updL (vp_updL (vp_updL (fun _ => 0) (0 : Int32).toNatClampNeg 1) (1 : Int32).toNatClampNeg 1) (2 : Int32).toNatClampNeg 1
  | _ => fun _ => 0
def st0 : St := (st0I, st0J)
theorem Adr_of {A : Nat → Prop} {G : G3} {ad : Nat → Nat} {st : St} (h : va_D A (SW G ad st)) : Adr ad ∧ ∀ i, i < 177 → A (ad i) := by
  have key : ∀ i, i < 177 → ∃ e, (SW G ad st)[i]? = some (ad i, e) := by
    intro i hi
    cases hc : ctab[i]? with
    | none => rw [List.getElem?_eq_none_iff, ctab_len] at hc; omega
    | some d => exact ⟨_, SW_get hc⟩
  refine ⟨fun i j hi hj e => ?_, fun i hi => ?_⟩
  · obtain ⟨a, ha⟩ := key i hi
    obtain ⟨b, hb⟩ := key j hj
    exact h.1 i j _ _ ha hb e
  · obtain ⟨a, ha⟩ := key i hi
    exact h.2 i _ ha
theorem dfX10 : ∀ j, j < 16 → defaultValue (tyX10 j) = vp_V [.null, .null, .null, .null, .null, .null, .null, .null, .null, .null, .null, .null, .null, .null, .null, .int 0] j := by decide +kernel
theorem dfX11 : ∀ j, j < 76 → defaultValue (tyX11 j) = vp_V [.int 0, .null, .null, .null, .null, .null, .null, .null, .null, .null, .int 0, .long 0, .int 0, .long 0, .long 0, .null, .null, .null, .null, .null, .null, .null, .null, .null, .null, .null, .null, .null, .int 0, .null, .null, .null, .int 0, .null, .null, .int 0, .int 0, .int 0, .int 0, .null, .long 0, .long 0, .long 0, .long 0, .int 0, .long 0, .long 0, .int 0, .null, .null, .long 0, .long 0, .long 0, .long 0, .null, .null, .null, .null, .null, .null, .null, .int 0, .int 0, .long 0, .long 0, .long 0, .null, .null, .null, .null, .null, .null, .null, .null, .null, .int 0] j := by decide +kernel
section
variable {p : Program} {s : State} {m : MethodId} {meth : Method} {c : Code} {b Ln : Nat} {xs : Nat → Int32}
set_option maxHeartbeats 4000000 in
set_option maxRecDepth 100000 in
theorem law_kk (C0 : lw_At p s m meth c b Ln xs) : ∃ (D : va_G) (G : G3), KK D G s ∧ KN s := by
  obtain ⟨hx, hb, hr, hml, hown, hts, hX, hbl, hlk, hgv⟩ := C0
  obtain ⟨c0, i0, hk0⟩ := u_known (C := RX0) (T := TX0) (N := 2) (n := 2) hts tb_X0 (hts _ (law_in _ wm_2_22))
  obtain ⟨c1, i1, hk1⟩ := u_known (C := RX1) (T := TX1) (N := 13) (n := 13) hts tb_X1 (hts _ (law_in _ wm_3_5))
  obtain ⟨c2, i2, hk2⟩ := u_known (C := RX2) (T := TX2) (N := 3) (n := 3) hts tb_X2 (hts _ (law_in _ wm_2_14))
  obtain ⟨c3, i3, hk3⟩ := u_known (C := RX3) (T := TX3) (N := 12) (n := 12) hts tb_X3 (hts _ (law_in _ wm_2_18))
  obtain ⟨c4, i4, hk4⟩ := u_known (C := RX4) (T := TX4) (N := 11) (n := 11) hts tb_X4 (hts _ (law_in _ wm_2_10))
  obtain ⟨c5, i5, hk5⟩ := u_known (C := RX5) (T := TX5) (N := 2) (n := 2) hts tb_X5 (hts _ (law_in _ wm_2_6))
  obtain ⟨c6, i6, hk6⟩ := u_known (C := RX6) (T := TX6) (N := 13) (n := 13) hts tb_X6 (hts _ (law_in _ wm_1_14))
  obtain ⟨c7, i7, hk7⟩ := u_known (C := RX7) (T := TX7) (N := 4) (n := 4) hts tb_X7 (hts _ (law_in _ wm_1_18))
  obtain ⟨c8, i8, hk8⟩ := u_known (C := RX8) (T := TX8) (N := 3) (n := 3) hts tb_X8 (hts _ (law_in _ wm_2_2))
  obtain ⟨c9, i9, hk9⟩ := u_known (C := RX9) (T := TX9) (N := 5) (n := 5) hts tb_X9 (hts _ (law_in _ wm_1_22))
  obtain ⟨c10, i10, hk10⟩ := u_known (C := RX10) (T := TX10) (N := 16) (n := 16) hts tb_X10 (hts _ (law_in _ wm_1_1))
  obtain ⟨c11, i11, hk11⟩ := u_known (C := RX11) (T := TX11) (N := 76) (n := 76) hts tb_X11 (hts _ (law_in _ wm_1_4))
  obtain ⟨cI, kI, compI, fI, gI, eI⟩ := Cond.arrayClass_spec (hts _ (law_in _ wm_3_8))
  obtain ⟨cJ, kJ, compJ, fJ, gJ, eJ⟩ := Cond.arrayClass_spec (hts _ (law_in _ wm_3_1))
  have hao : va_AO RX1 s := va_AO.of (hts _ (in_t2 _ (mm_at 65 rfl)))
  obtain ⟨compF, cF, kF, fF, _, gF, eF, hF⟩ := Cond.arrayOver_spec hao
  refine ⟨(fun k => match k with | 0 => c0 | 1 => c1 | 2 => c2 | 3 => c3 | 4 => c4 | 5 => c5 | 6 => c6 | 7 => c7 | 8 => c8 | 9 => c9 | 10 => c10 | _ => c11, fun k => match k with | 0 => i0 | 1 => i1 | 2 => i2 | 3 => i3 | 4 => i4 | 5 => i5 | 6 => i6 | 7 => i7 | 8 => i8 | 9 => i9 | 10 => i10 | _ => i11), (cI, cJ, cF), ⟨⟨?_, ?_⟩, ?_, ?_⟩, ⟨?_, ?_, ?_, ?_, ?_, ?_, ?_, ?_, ?_, ?_⟩, hao⟩
  · intro k q hq
    match k, hq with
    | 0, hq => cases hq; exact hk0
    | 1, hq => cases hq; exact hk1
    | 2, hq => cases hq; exact hk2
    | 3, hq => cases hq; exact hk3
    | 4, hq => cases hq; exact hk4
    | 5, hq => cases hq; exact hk5
    | 6, hq => cases hq; exact hk6
    | 7, hq => cases hq; exact hk7
    | 8, hq => cases hq; exact hk8
    | 9, hq => cases hq; exact hk9
    | 10, hq => cases hq; exact hk10
    | 11, hq => cases hq; exact hk11
    | k + 12, hq => simp [vwCl] at hq
  · intro k q hq
    match k, hq with
    | 0, hq => cases hq; exact ⟨fun n z => ⟨(fun k h => by cases h), kI, gI, compI, eI⟩, fI⟩
    | 1, hq => cases hq; exact ⟨fun n z => ⟨(fun k h => by cases h), kJ, gJ, compJ, eJ⟩, fJ⟩
    | 2, hq => cases hq; exact ⟨fun n z => ⟨(fun k h => by cases h), kF, gF, compF, eF⟩, kF, compF, gF, eF, fF, hF⟩
    | k + 3, hq => simp [tysG] at hq
  · exact va_Nw.of rfl (hts _ (in_t4 _ (mm_at 208 rfl)))
  · exact va_Nw.of rfl (hts _ (in_t4 _ (mm_at 131 rfl)))
  · exact va_Nw.of rfl (hts _ (in_t2 _ (mm_at 56 rfl)))
  · exact va_Nw.of rfl (hts _ (in_t1 _ (mm_at 30 rfl)))
  · exact va_Nw.of rfl (hts _ (in_t1 _ (mm_at 98 rfl)))
  · exact va_Nw.of rfl (hts _ (in_t1 _ (mm_at 119 rfl)))
  · exact va_Nw.of rfl (hts _ (in_t1 _ (mm_at 145 rfl)))
  · exact va_Nw.of rfl (hts _ (in_t1 _ (mm_at 166 rfl)))
  · exact va_Nw.of rfl (hts _ (in_t2 _ (mm_at 2 rfl)))
  · exact va_Nw.of rfl (hts _ (in_t2 _ (mm_at 51 rfl)))
  · exact va_Nw.of rfl (hts _ (in_t2 _ (mm_at 67 rfl)))
  · exact va_Nw.of rfl (hts _ (in_t1 _ (mm_at 185 rfl)))
set_option maxHeartbeats 4000000 in
set_option maxRecDepth 100000 in
theorem law_str (C0 : lw_At p s m meth c b Ln xs) : ∃ aK aV : Nat, vk_R RX9 65 "stock owed way seen mean week place min max " aK s ∧ vk_S 1 [44] [wordsB] (fun _ => aK) (fun _ => aV) (fun q => s.heap.size ≤ q) s s.heap ∧ va_Z "java/lang/String" "COMPACT_STRINGS" "Z" (.int 1) (fun q => s.heap.size ≤ q) s s.heap ∧ va_Zq "jdk/internal/util/Preconditions" "SIOOBE_FORMATTER" "Ljava/util/function/BiFunction;" (fun q => s.heap.size ≤ q) s s.heap := by
  obtain ⟨hx, hb, hr, hml, hown, hts, hX, hbl, hlk, hgv⟩ := C0
  have hs := flat_of_before _ hgv
  have hA : ∀ a : Nat, a < s.heap.size → ¬ s.heap.size ≤ a := fun a h => Nat.not_le.mpr h
  obtain ⟨adK, adV, hS, hev⟩ := vk_Sof (args := #[Value.ref b]) (s := s) (N := 1) (tm := fun _ => Term.string "OrderEcho$Tape" 65) (len := [44]) (byt := [wordsB]) (A := fun q => s.heap.size ≤ q)
    (fun i hi => by have : i = 0 := by omega
                    subst this; decide)
    (fun i hi => hs _ (by decide +kernel)) (fun i hi => hs _ (by decide +kernel)) (fun i hi => hs _ (by decide +kernel))
    (fun i hi => by have : i = 0 := by omega
                    subst this; exact hs _ (by decide +kernel))
    (fun i hi j hj => by
      have : i = 0 := by omega
      subst this
      have hj : j < 44 := hj
      match j, hj with
      | 0, _ => exact hs _ (by decide +kernel)
      | 1, _ => exact hs _ (by decide +kernel)
      | 2, _ => exact hs _ (by decide +kernel)
      | 3, _ => exact hs _ (by decide +kernel)
      | 4, _ => exact hs _ (by decide +kernel)
      | 5, _ => exact hs _ (by decide +kernel)
      | 6, _ => exact hs _ (by decide +kernel)
      | 7, _ => exact hs _ (by decide +kernel)
      | 8, _ => exact hs _ (by decide +kernel)
      | 9, _ => exact hs _ (by decide +kernel)
      | 10, _ => exact hs _ (by decide +kernel)
      | 11, _ => exact hs _ (by decide +kernel)
      | 12, _ => exact hs _ (by decide +kernel)
      | 13, _ => exact hs _ (by decide +kernel)
      | 14, _ => exact hs _ (by decide +kernel)
      | 15, _ => exact hs _ (by decide +kernel)
      | 16, _ => exact hs _ (by decide +kernel)
      | 17, _ => exact hs _ (by decide +kernel)
      | 18, _ => exact hs _ (by decide +kernel)
      | 19, _ => exact hs _ (by decide +kernel)
      | 20, _ => exact hs _ (by decide +kernel)
      | 21, _ => exact hs _ (by decide +kernel)
      | 22, _ => exact hs _ (by decide +kernel)
      | 23, _ => exact hs _ (by decide +kernel)
      | 24, _ => exact hs _ (by decide +kernel)
      | 25, _ => exact hs _ (by decide +kernel)
      | 26, _ => exact hs _ (by decide +kernel)
      | 27, _ => exact hs _ (by decide +kernel)
      | 28, _ => exact hs _ (by decide +kernel)
      | 29, _ => exact hs _ (by decide +kernel)
      | 30, _ => exact hs _ (by decide +kernel)
      | 31, _ => exact hs _ (by decide +kernel)
      | 32, _ => exact hs _ (by decide +kernel)
      | 33, _ => exact hs _ (by decide +kernel)
      | 34, _ => exact hs _ (by decide +kernel)
      | 35, _ => exact hs _ (by decide +kernel)
      | 36, _ => exact hs _ (by decide +kernel)
      | 37, _ => exact hs _ (by decide +kernel)
      | 38, _ => exact hs _ (by decide +kernel)
      | 39, _ => exact hs _ (by decide +kernel)
      | 40, _ => exact hs _ (by decide +kernel)
      | 41, _ => exact hs _ (by decide +kernel)
      | 42, _ => exact hs _ (by decide +kernel)
      | 43, _ => exact hs _ (by decide +kernel)
      | k + 44, h => exact absurd h (by omega)
      )
    (fun i j hi hj hne => by omega) hA
  refine ⟨adK 0, adV 0, vk_R.of (hts _ (in_t3 _ (mm_at 185 rfl))) (hev 0 (by decide)), ⟨fun i hi => ?_, fun i j hi hj _ => by omega⟩, ?_, ?_⟩
  · have : i = 0 := by omega
    subst this
    exact hS.1 0 (by decide)
  · exact va_Zof (hts _ (in_t3 _ (mm_at 195 rfl))) (hts _ (law_in _ wm_27_19)) (by
      have h : (Cond.eq (Term.static "java/lang/String" "COMPACT_STRINGS" "Z") (Term.int 1)).before #[Value.ref b] s = true := hs _ (by decide +kernel)
      exact Cond.eq_int h rfl) hA
  · exact va_Zqof (hts _ (in_t3 _ (mm_at 211 rfl))) (hts _ (law_in _ wm_28_22)) (hs _ (by decide +kernel)) hA
end
