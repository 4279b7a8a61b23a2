/-! ===== the memory: ints and longs by the number of a cell and a place in it; both systems' cells have fixed numbers ===== -/
abbrev St : Type := (Nat → Nat → Int32) × (Nat → Nat → Int64)
def setI (st : St) (o k : Nat) (v : Int32) : St := (fun a => if a = o then upd (st.1 a) k v else st.1 a, st.2)
def setJ (st : St) (o k : Nat) (v : Int64) : St := (st.1, fun a => if a = o then vp_updL (st.2 a) k v else st.2 a)
def rowI (st : St) (o : Nat) (f : Nat → Int32) : St := (fun a => if a = o then f else st.1 a, st.2)
def rowJ (st : St) (o : Nat) (f : Nat → Int64) : St := (st.1, fun a => if a = o then f else st.2 a)
theorem setI_row (st : St) (o k : Nat) (v : Int32) : setI st o k v = rowI st o (upd (st.1 o) k v) := by
  unfold setI rowI
  congr 1
  funext a
  by_cases h : a = o
  · rw [if_pos h, if_pos h, h]
  · rw [if_neg h, if_neg h]
theorem setJ_row (st : St) (o k : Nat) (v : Int64) : setJ st o k v = rowJ st o (vp_updL (st.2 o) k v) := by
  unfold setJ rowJ
  congr 1
  funext a
  by_cases h : a = o
  · rw [if_pos h, if_pos h, h]
  · rw [if_neg h, if_neg h]
/-- what a cell is: an object of a class with its fields (a reference to a cell, an int, a long), or a row of so many ints (0), longs (1), flows (2) -/
abbrev Dsc : Type := (Nat × List (Nat ⊕ Bool)) ⊕ (Nat × Nat)
def ctab : List Dsc := [
  .inl (10, [.inl 1, .inl 11, .inl 15, .inl 18, .inl 21, .inl 24, .inl 36, .inl 37, .inl 43, .inl 48, .inl 49, .inl 53, .inl 50, .inl 51, .inl 52, .inr false]),
  .inl (6, [.inl 2, .inl 3, .inl 4, .inl 5, .inl 6, .inl 7, .inl 8, .inl 9, .inl 10, .inr false, .inr false, .inr false, .inr true]),
  .inr (8, 0),
  .inr (8, 0),
  .inr (8, 0),
  .inr (8, 0),
  .inr (8, 0),
  .inr (8, 0),
  .inr (8, 0),
  .inr (8, 0),
  .inr (8, 0),
  .inl (7, [.inl 12, .inl 13, .inl 14, .inr false]),
  .inr (1440, 0),
  .inr (12, 0),
  .inr (32, 1),
  .inl (9, [.inl 16, .inl 17, .inr false, .inr false, .inr false]),
  .inr (120, 0),
  .inr (120, 0),
  .inl (8, [.inl 19, .inl 20, .inr false]),
  .inr (8, 0),
  .inr (8, 0),
  .inl (5, [.inl 22, .inl 23]),
  .inr (320, 0),
  .inr (320, 0),
  .inl (4, [.inl 25, .inl 26, .inl 27, .inl 28, .inl 29, .inl 30, .inl 31, .inl 32, .inl 33, .inl 34, .inl 35]),
  .inl (2, [.inr true, .inr true, .inr false]),
  .inl (2, [.inr true, .inr true, .inr false]),
  .inl (2, [.inr true, .inr true, .inr false]),
  .inl (2, [.inr true, .inr true, .inr false]),
  .inl (2, [.inr true, .inr true, .inr false]),
  .inl (2, [.inr true, .inr true, .inr false]),
  .inl (2, [.inr true, .inr true, .inr false]),
  .inl (2, [.inr true, .inr true, .inr false]),
  .inl (2, [.inr true, .inr true, .inr false]),
  .inl (2, [.inr true, .inr true, .inr false]),
  .inl (2, [.inr true, .inr true, .inr false]),
  .inl (2, [.inr true, .inr true, .inr false]),
  .inl (3, [.inl 38, .inl 39, .inl 40, .inl 41, .inl 42, .inr false, .inr false, .inr false, .inr false, .inr false, .inr false, .inr true]),
  .inr (5, 0),
  .inr (25, 1),
  .inr (17, 1),
  .inr (13, 1),
  .inr (73, 1),
  .inl (0, [.inl 44, .inl 47]),
  .inl (8, [.inl 45, .inl 46, .inr false]),
  .inr (8, 0),
  .inr (8, 0),
  .inr (4, 0),
  .inr (5, 1),
  .inr (7, 2),
  .inr (8, 0),
  .inr (8, 0),
  .inr (6, 0),
  .inl (1, [.inl 54, .inl 55, .inl 56, .inl 57, .inl 58, .inl 59, .inl 60, .inl 61, .inl 62, .inl 63, .inr false, .inr true, .inr true]),
  .inr (8, 0),
  .inr (48, 0),
  .inr (8, 0),
  .inr (8, 0),
  .inr (8, 0),
  .inr (8, 0),
  .inr (8, 0),
  .inr (32, 0),
  .inr (32, 0),
  .inr (8, 1),
  .inl (1, [.inl 65, .inl 66, .inl 67, .inl 68, .inl 69, .inl 70, .inl 71, .inl 72, .inl 73, .inl 74, .inr false, .inr true, .inr true]),
  .inr (8, 0),
  .inr (48, 0),
  .inr (8, 0),
  .inr (8, 0),
  .inr (8, 0),
  .inr (8, 0),
  .inr (8, 0),
  .inr (32, 0),
  .inr (32, 0),
  .inr (8, 1),
  .inl (1, [.inl 76, .inl 77, .inl 78, .inl 79, .inl 80, .inl 81, .inl 82, .inl 83, .inl 84, .inl 85, .inr false, .inr true, .inr true]),
  .inr (8, 0),
  .inr (48, 0),
  .inr (8, 0),
  .inr (8, 0),
  .inr (8, 0),
  .inr (8, 0),
  .inr (8, 0),
  .inr (32, 0),
  .inr (32, 0),
  .inr (8, 1),
  .inl (1, [.inl 87, .inl 88, .inl 89, .inl 90, .inl 91, .inl 92, .inl 93, .inl 94, .inl 95, .inl 96, .inr false, .inr true, .inr true]),
  .inr (8, 0),
  .inr (48, 0),
  .inr (8, 0),
  .inr (8, 0),
  .inr (8, 0),
  .inr (8, 0),
  .inr (8, 0),
  .inr (32, 0),
  .inr (32, 0),
  .inr (8, 1),
  .inl (1, [.inl 98, .inl 99, .inl 100, .inl 101, .inl 102, .inl 103, .inl 104, .inl 105, .inl 106, .inl 107, .inr false, .inr true, .inr true]),
  .inr (8, 0),
  .inr (48, 0),
  .inr (8, 0),
  .inr (8, 0),
  .inr (8, 0),
  .inr (8, 0),
  .inr (8, 0),
  .inr (32, 0),
  .inr (32, 0),
  .inr (8, 1),
  .inl (1, [.inl 109, .inl 110, .inl 111, .inl 112, .inl 113, .inl 114, .inl 115, .inl 116, .inl 117, .inl 118, .inr false, .inr true, .inr true]),
  .inr (8, 0),
  .inr (48, 0),
  .inr (8, 0),
  .inr (8, 0),
  .inr (8, 0),
  .inr (8, 0),
  .inr (8, 0),
  .inr (32, 0),
  .inr (32, 0),
  .inr (8, 1),
  .inl (1, [.inl 120, .inl 121, .inl 122, .inl 123, .inl 124, .inl 125, .inl 126, .inl 127, .inl 128, .inl 129, .inr false, .inr true, .inr true]),
  .inr (8, 0),
  .inr (48, 0),
  .inr (8, 0),
  .inr (8, 0),
  .inr (8, 0),
  .inr (8, 0),
  .inr (8, 0),
  .inr (32, 0),
  .inr (32, 0),
  .inr (8, 1),
  .inl (11, [.inr false, .inl 131, .inl 132, .inl 133, .inl 134, .inl 135, .inl 136, .inl 137, .inl 138, .inl 139, .inr false, .inr true, .inr false, .inr true, .inr true, .inl 140, .inl 141, .inl 142, .inl 143, .inl 144, .inl 145, .inl 146, .inl 147, .inl 148, .inl 149, .inl 150, .inl 151, .inl 152, .inr false, .inl 153, .inl 154, .inl 155, .inr false, .inl 156, .inl 157, .inr false, .inr false, .inr false, .inr false, .inl 158, .inr true, .inr true, .inr true, .inr true, .inr false, .inr true, .inr true, .inr false, .inl 159, .inl 160, .inr true, .inr true, .inr true, .inr true, .inl 161, .inl 162, .inl 163, .inl 164, .inl 165, .inl 166, .inl 167, .inr false, .inr false, .inr true, .inr true, .inr true, .inl 168, .inl 169, .inl 170, .inl 171, .inl 172, .inl 173, .inl 174, .inl 175, .inl 176, .inr false]),
  .inr (8, 0),
  .inr (8, 0),
  .inr (8, 0),
  .inr (8, 0),
  .inr (8, 0),
  .inr (8, 0),
  .inr (8, 0),
  .inr (8, 0),
  .inr (8, 0),
  .inr (8, 0),
  .inr (8, 1),
  .inr (64, 1),
  .inr (56, 1),
  .inr (32, 1),
  .inr (8, 1),
  .inr (8, 1),
  .inr (8, 1),
  .inr (8, 1),
  .inr (320, 1),
  .inr (320, 1),
  .inr (8, 1),
  .inr (8, 1),
  .inr (12, 0),
  .inr (1440, 0),
  .inr (120, 0),
  .inr (54, 0),
  .inr (130, 0),
  .inr (130, 1),
  .inr (31, 1),
  .inr (31, 1),
  .inr (3, 1),
  .inr (3, 1),
  .inr (5, 1),
  .inr (5, 1),
  .inr (5, 0),
  .inr (50, 1),
  .inr (25, 1),
  .inr (3, 1),
  .inr (8, 0),
  .inr (40, 1),
  .inr (64, 1),
  .inr (56, 1),
  .inr (32, 1),
  .inr (320, 1),
  .inr (320, 1),
  .inr (6, 0)]
abbrev G3 : Type := ClassId × ClassId × ClassId
def fval (ad : Nat → Nat) (st : St) (id k : Nat) (f : Nat ⊕ Bool) : Value := match f with
  | .inl t => .ref (ad t)
  | .inr false => .int (st.1 id k)
  | .inr true => .long (st.2 id k)
def fvals (ad : Nat → Nat) (st : St) (id : Nat) : Nat → List (Nat ⊕ Bool) → List Value
  | _, [] => []
  | k, f :: fs => fval ad st id k f :: fvals ad st id (k + 1) fs
def cellE (G : G3) (ad : Nat → Nat) (st : St) (id : Nat) (d : Dsc) : va_E := match d with
  | .inl (c, fs) => .inr (c, fvals ad st id 0 fs)
  | .inr (n, 0) => .inl (G.1, n, .inl (st.1 id))
  | .inr (n, 1) => .inl (G.2.1, n, .inr (.inl (st.2 id)))
  | .inr (n, _ + 2) => .inl (G.2.2, n, .inr (.inr (.inr (.inr (fun i => some (ad (53 + 11 * i)))))))
def SWl (G : G3) (ad : Nat → Nat) (st : St) : Nat → List Dsc → va_W
  | _, [] => []
  | id, d :: ds => (ad id, cellE G ad st id d) :: SWl G ad st (id + 1) ds
def SW (G : G3) (ad : Nat → Nat) (st : St) : va_W := SWl G ad st 0 ctab
theorem fvals_get {ad : Nat → Nat} {st : St} {id : Nat} : ∀ (fs : List (Nat ⊕ Bool)) (j k : Nat) {f : Nat ⊕ Bool}, fs[k]? = some f → (fvals ad st id j fs)[k]? = some (fval ad st id (j + k) f) := by
  intro fs
  induction fs with
  | nil => intro j k f h; simp at h
  | cons a fs ih =>
    intro j k f h
    cases k with
    | zero => simp only [List.getElem?_cons_zero, Option.some.injEq] at h; subst h; simp [fvals]
    | succ k =>
      simp only [List.getElem?_cons_succ] at h
      simp only [fvals, List.getElem?_cons_succ]
      rw [ih (j + 1) k h]
      congr 2
      omega
theorem fvals_len {ad : Nat → Nat} {st : St} {id : Nat} : ∀ (fs : List (Nat ⊕ Bool)) (j : Nat), (fvals ad st id j fs).length = fs.length := by
  intro fs
  induction fs with
  | nil => intro j; rfl
  | cons a fs ih => intro j; simp [fvals, ih]
theorem SWl_get {G : G3} {ad : Nat → Nat} {st : St} : ∀ (ds : List Dsc) (j k : Nat), (SWl G ad st j ds)[k]? = (ds[k]?).map (fun d => (ad (j + k), cellE G ad st (j + k) d)) := by
  intro ds
  induction ds with
  | nil => intro j k; simp [SWl]
  | cons a ds ih =>
    intro j k
    cases k with
    | zero => simp [SWl]
    | succ k =>
      simp only [SWl, List.getElem?_cons_succ]
      rw [ih (j + 1) k]
      have e : j + 1 + k = j + (k + 1) := by omega
      rw [e]
theorem SW_at {G : G3} {ad : Nat → Nat} {st : St} (k : Nat) : (SW G ad st)[k]? = (ctab[k]?).map (fun d => (ad k, cellE G ad st k d)) := by
  have h := SWl_get (G := G) (ad := ad) (st := st) ctab 0 k
  simpa [SW] using h
theorem SW_get {G : G3} {ad : Nat → Nat} {st : St} {k : Nat} {d : Dsc} (h : ctab[k]? = some d) : (SW G ad st)[k]? = some (ad k, cellE G ad st k d) := by
  rw [SW_at, h]; rfl
theorem fvals_same {ad : Nat → Nat} {st st' : St} {id : Nat} (h : st'.1 id = st.1 id) (h2 : st'.2 id = st.2 id) : ∀ (fs : List (Nat ⊕ Bool)) (j : Nat), fvals ad st' id j fs = fvals ad st id j fs := by
  intro fs
  induction fs with
  | nil => intro j; rfl
  | cons a fs ih =>
    intro j
    simp only [fvals]
    rw [ih (j + 1)]
    congr 1
    match a with
    | .inl t => rfl
    | .inr false => simp only [fval]; rw [h]
    | .inr true => simp only [fval]; rw [h2]
theorem cellE_same {G : G3} {ad : Nat → Nat} {st st' : St} {id : Nat} {d : Dsc} (h : st'.1 id = st.1 id) (h2 : st'.2 id = st.2 id) : cellE G ad st' id d = cellE G ad st id d := by
  match d with
  | .inl (c, fs) => simp only [cellE]; rw [fvals_same h h2]
  | .inr (n, 0) => simp only [cellE]; rw [h]
  | .inr (n, 1) => simp only [cellE]; rw [h2]
  | .inr (n, k + 2) => rfl
theorem SW_set {G : G3} {ad : Nat → Nat} {st st' : St} {id : Nat} {d : Dsc} {E : va_E} (hd : ctab[id]? = some d) (hE : E = cellE G ad st' id d) (h : ∀ j, j ≠ id → st'.1 j = st.1 j ∧ st'.2 j = st.2 j) : (SW G ad st).set id (ad id, E) = SW G ad st' := by
  subst hE
  apply List.ext_getElem?
  intro k
  rw [List.getElem?_set]
  by_cases hk : id = k
  · subst hk
    have hlt : id < (SW G ad st).length := (List.getElem?_eq_some_iff.mp (SW_get (G := G) (ad := ad) (st := st) hd)).1
    rw [if_pos rfl, if_pos hlt, SW_get hd]
  · rw [if_neg hk, SW_at, SW_at]
    cases hc : ctab[k]? with
    | none => rfl
    | some e =>
      have := h k (fun q => hk q.symm)
      simp only [Option.map_some]
      rw [cellE_same this.1 this.2]
def Adr (ad : Nat → Nat) : Prop := ∀ i j, i < 177 → j < 177 → ad i = ad j → i = j
def AA (ad : Nat → Nat) (sz : Nat) : Nat → Prop := fun q => (∃ i, i < 177 ∧ q = ad i) ∨ sz ≤ q
theorem ctab_len : ctab.length = 177 := by decide +kernel
theorem ctab_lt {k : Nat} {d : Dsc} (h : ctab[k]? = some d) : k < 177 := by
  have := (List.getElem?_eq_some_iff.mp h).1
  rwa [ctab_len] at this
theorem SW_D {G : G3} {ad : Nat → Nat} {st : St} {sz : Nat} (h : Adr ad) : va_D (AA ad sz) (SW G ad st) := by
  have key : ∀ (i : Nat) (q : Nat × va_E), (SW G ad st)[i]? = some q → i < 177 ∧ q.1 = ad i := by
    intro i q hq
    rw [SW_at] at hq
    cases hc : ctab[i]? with
    | none => rw [hc] at hq; cases hq
    | some e =>
      rw [hc] at hq
      simp only [Option.map_some, Option.some.injEq] at hq
      exact ⟨ctab_lt hc, by rw [← hq]⟩
  refine ⟨fun i j p q hp hq e => ?_, fun k q hq => ?_⟩
  · obtain ⟨h1, h2⟩ := key i p hp
    obtain ⟨h3, h4⟩ := key j q hq
    exact h i j h1 h3 (by rw [← h2, ← h4]; exact e)
  · obtain ⟨h1, h2⟩ := key k q hq
    exact Or.inl ⟨k, h1, h2⟩
theorem AA_mono {ad : Nat → Nat} {a b : Nat} (h : a ≤ b) : ∀ q, AA ad b q → AA ad a q := fun _ hq => hq.elim Or.inl (fun z => Or.inr (Nat.le_trans h z))
def tysG (G : G3) : List (ClassId × FieldType) := [(G.1, .int), (G.2.1, .long), (G.2.2, .object "OrderEcho$Flow")]
/-- what the tables give of a state: the classes, the rows' classes, the two private statics that nested classes call -/
def KK (D : va_G) (G : G3) (U : State) : Prop := va_K D vwCl (tysG G) U ∧ va_Nw (.methodLinkNest RX0 24 yX10_endsBelow "OrderEcho") U ∧ va_Nw (.methodLinkNest RX3 42 yX10_within "OrderEcho") U
theorem KK.warm {D : va_G} {G : G3} {s U : State} (hW : s.WarmedH U.vm) (h : KK D G s) : KK D G U := ⟨va_K.moved hW.alike h.1, va_Nw.warmM hW h.2.1, va_Nw.warmM hW h.2.2⟩
theorem KK.calling {D : va_G} {G : G3} {U : State} {g : JFrame} {mk : MethodId} {a : Array Value} (h : KK D G U) : KK D G (U.calling g mk a) := ⟨va_K.moved (u := U) (U := U.calling g mk a) (Vm.Alike.refl U.vm) h.1, va_Nw.same rfl rfl h.2.1, va_Nw.same rfl rfl h.2.2⟩
def wordsB : List Int32 := [115, 116, 111, 99, 107, 32, 111, 119, 101, 100, 32, 119, 97, 121, 32, 115, 101, 101, 110, 32, 109, 101, 97, 110, 32, 119, 101, 101, 107, 32, 112, 108, 97, 99, 101, 32, 109, 105, 110, 32, 109, 97, 120, 32]
/-- the one text, its row of bytes, and the statics that its methods read: none of them is among the cells of the two systems -/
def Str (ad : Nat → Nat) (U : State) : Prop := vk_R RX9 65 "stock owed way seen mean week place min max " (ad 177) U ∧ vk_S 1 [44] [wordsB] (fun _ => ad 177) (fun _ => ad 178) (AA ad U.heap.size) U U.heap ∧ va_Z "java/lang/String" "COMPACT_STRINGS" "Z" (.int 1) (AA ad U.heap.size) U U.heap ∧ va_Zq "jdk/internal/util/Preconditions" "SIOOBE_FORMATTER" "Ljava/util/function/BiFunction;" (AA ad U.heap.size) U U.heap
theorem Str.at {ad : Nat → Nat} {s U : State} {H : Heap} {locs : List Loc} (h : Str ad s) (hS : va_S (AA ad s.heap.size) s.heap H locs) (hU : U.heap = H) (hW : s.WarmedH U.vm) : Str ad U := by
  have hk : ∀ a : Nat, a < s.heap.size → ¬ AA ad s.heap.size a → U.heap[a]? = s.heap[a]? := fun a h1 h2 => by rw [hU]; exact hS.2.1 a h1 h2
  have hn : ∀ q, AA ad U.heap.size q → AA ad s.heap.size q := AA_mono (by rw [hU]; exact hS.1)
  exact ⟨vk_R.warm hW h.1, ((h.2.1.kept hk).narrow hn).moved hW.alike, ((h.2.2.1.kept hk).narrow hn).moved hW.alike, ((h.2.2.2.kept hk).narrow hn).moved hW.alike⟩
theorem Str.calling {ad : Nat → Nat} {U : State} {g : JFrame} {mk : MethodId} {a : Array Value} (h : Str ad U) : Str ad (U.calling g mk a) := ⟨vk_R.same rfl h.1, vk_S.moved (u := U) (Vm.Alike.refl U.vm) h.2.1, va_Z.moved (u := U) (Vm.Alike.refl U.vm) h.2.2.1, va_Zq.moved (u := U) (Vm.Alike.refl U.vm) h.2.2.2⟩
def Wd (D : va_G) (G : G3) (ad : Nat → Nat) (sz : Nat) (st : St) (U : State) : Prop := U.heap.size = sz ∧ va_P D vwCl (SW G ad st) U.heap ∧ KK D G U ∧ Str ad U
def We (D : va_G) (G : G3) (ad : Nat → Nat) (u : St) (t : State) : Prop := va_P D vwCl (SW G ad u) t.heap
/-- contracts: an int, a long, nothing, a reference -/
abbrev CtI (l : Launch) (y : MethodName) (ws : List Cond) (rm : Room) (D : va_G) (G : G3) (ad : Nat → Nat) (sz : Nat) (as : List Value) (st : St) (res : Int32 × St) : Prop := Met l y ws rm (va_Pc as (Wd D G ad sz st)) (va_Qi (fun r u => r = res.1 ∧ u = res.2) (We D G ad) (AA ad sz)) 0 0 (AA ad sz)
abbrev CtJ (l : Launch) (y : MethodName) (ws : List Cond) (rm : Room) (D : va_G) (G : G3) (ad : Nat → Nat) (sz : Nat) (as : List Value) (st : St) (res : Int64 × St) : Prop := Met l y ws rm (va_Pc as (Wd D G ad sz st)) (va_Ql (fun r u => r = res.1 ∧ u = res.2) (We D G ad) (AA ad sz)) 0 0 (AA ad sz)
abbrev CtV (l : Launch) (y : MethodName) (ws : List Cond) (rm : Room) (D : va_G) (G : G3) (ad : Nat → Nat) (sz : Nat) (as : List Value) (st : St) (res : Unit × St) : Prop := Met l y ws rm (va_Pc as (Wd D G ad sz st)) (va_Qv (fun u => u = res.2) (We D G ad) (AA ad sz)) 0 0 (AA ad sz)
abbrev CtR (l : Launch) (y : MethodName) (ws : List Cond) (rm : Room) (D : va_G) (G : G3) (ad : Nat → Nat) (sz : Nat) (as : List Value) (st : St) (res : Nat × St) : Prop := Met l y ws rm (va_Pc as (Wd D G ad sz st)) (va_Qr (fun u => u = res.2) (fun u a t => a = ad res.1 ∧ We D G ad u t) (AA ad sz)) 0 0 (AA ad sz)
/-- what holds in a method's body -/
def Cx (p : Program) (s : State) (m : MethodId) (args : Array Value) (meth : Method) (c : Code) (cc : ByteArray) (nL : Nat) (Ts : List Cond) (own : String) (ret : Option FieldType) (D : va_G) (G : G3) (ad : Nat → Nat) : Prop :=
  p.tables.exec = Jvm.exec ∧ c.code = cc ∧ c.maxLocals = nL ∧ s.vm.findClass own = some m.cls ∧ (∀ w ∈ Ts, w.before args s = true) ∧ meth.sig.returnType = ret ∧ meth.locks = false ∧ KK D G s ∧ Adr ad ∧ Str ad s
abbrev MQI (D : va_G) (G : G3) (ad : Nat → Nat) (below : List Frame) (args : Array Value) (s : State) (res : Int32 × St) : State → Prop := MQ below (va_Qi (fun r u => r = res.1 ∧ u = res.2) (We D G ad) (AA ad s.heap.size)) args s 0 0 (AA ad s.heap.size)
abbrev MQJ (D : va_G) (G : G3) (ad : Nat → Nat) (below : List Frame) (args : Array Value) (s : State) (res : Int64 × St) : State → Prop := MQ below (va_Ql (fun r u => r = res.1 ∧ u = res.2) (We D G ad) (AA ad s.heap.size)) args s 0 0 (AA ad s.heap.size)
abbrev MQV (D : va_G) (G : G3) (ad : Nat → Nat) (below : List Frame) (args : Array Value) (s : State) (res : Unit × St) : State → Prop := MQ below (va_Qv (fun u => u = res.2) (We D G ad) (AA ad s.heap.size)) args s 0 0 (AA ad s.heap.size)
abbrev MQR (D : va_G) (G : G3) (ad : Nat → Nat) (below : List Frame) (args : Array Value) (s : State) (res : Nat × St) : State → Prop := MQ below (va_Qr (fun u => u = res.2) (fun u a t => a = ad res.1 ∧ We D G ad u t) (AA ad s.heap.size)) args s 0 0 (AA ad s.heap.size)
/-- guards of the pure functions -/
def inb (i : Int32) (n : Nat) : Bool := !(decide (i < 0) || decide (n ≤ i.toNatClampNeg))
theorem inb_in {i : Int32} {n : Nat} (h : inb i n = true) : vp_in i n := by
  unfold inb at h
  unfold vp_in
  simpa using h
theorem gd {α : Type} {b : Bool} {x : Option α} {r : α} (h : (if b = true then x else none) = some r) : b = true ∧ x = some r := by
  cases b with
  | false => simp at h
  | true => exact ⟨rfl, by simpa using h⟩
theorem gn {α : Type} {c : Prop} [Decidable c] {x : Option α} {r : α} (h : (if c then none else x) = some r) : ¬ c ∧ x = some r := by
  by_cases hc : c
  · rw [if_pos hc] at h; cases h
  · rw [if_neg hc] at h; exact ⟨hc, h⟩
theorem it {α : Type} {c : Prop} [Decidable c] {x y : Option α} {r : α} (h : (if c then x else y) = some r) (hc : c) : x = some r := by rwa [if_pos hc] at h
theorem ie {α : Type} {c : Prop} [Decidable c] {x y : Option α} {r : α} (h : (if c then x else y) = some r) (hc : ¬ c) : y = some r := by rwa [if_neg hc] at h
theorem bd {α β : Type} {x : Option α} {f : α → Option β} {r : β} (h : x.bind f = some r) : ∃ a, x = some a ∧ f a = some r := Option.bind_eq_some_iff.mp h
section GR
variable {p : Program} {l : Launch} {e : Env} {R : Room} {s : State} {m : MethodId} {args : Array Value} {below : List Frame} {meth : Method} {c : Code} {H H0 : Heap} {locs : List Loc} {cells slots : Nat} {Q : State → Prop} {cc : ByteArray} {pc : Nat} {ls : Array Slot} {rest : List Value} {D : va_G} {G : G3} {ad : Nat → Nat} {st : St} {sz : Nat}
theorem fv_at {o : Nat} {ci : Nat} {fs : List (Nat ⊕ Bool)} (hd : ctab[o]? = some (.inl (ci, fs))) : (SW G ad st)[o]? = some (ad o, .inr (ci, fvals ad st o 0 fs)) := SW_get hd
/-- getfield of an object of the table -/
theorem g_get (hexec : p.tables.exec = Jvm.exec) (hb : c.code = cc) {own C : String} {T : u_T} {N ci index : Nat} {Ts : List Cond} (hts : ∀ w ∈ Ts, w.before args s = true) (hin : ∀ w ∈ u_ws C T N, w ∈ Ts) (hown : s.vm.findClass own = some m.cls) (hK : KK D G s) (hP : va_P D vwCl (SW G ad st) H) (o : Nat) {fs : List (Nat ⊕ Bool)} (hd : ctab[o]? = some (.inl (ci, fs))) (hc : vwCl[ci]? = some (C, T, N)) (k : Nat) (hk : k < N) (hlink : (Cond.fieldLink own index (T k).1 (T k).2.1 (T k).2.2.1).before args s = true) {f : Nat ⊕ Bool} (hf : fs[k]? = some f) (hdg : decode cc pc = .ok (.getfield index, 3))
    (kk : W p l e R s m args below meth c H locs cells slots Q (F0 m (pc + 3) ls (fval ad st o k f :: rest))) : W p l e R s m args below meth c H locs cells slots Q (F0 m pc ls (.ref (ad o) :: rest)) :=
  va_get hexec hb hts hin hown hK.1 hP o (fv_at hd) hc k hk hlink (fun _ h => h) (by have := fvals_get (ad := ad) (st := st) (id := o) fs 0 k hf; rw [Nat.zero_add] at this; exact this) hdg kk
theorem fvals_setI {ad : Nat → Nat} {st : St} {id : Nat} {v : Int32} : ∀ (fs : List (Nat ⊕ Bool)) (j k : Nat), fs[k]? = some (.inr false) → (fvals ad st id j fs).set k (.int v) = fvals ad (setI st id (j + k) v) id j fs := by
  intro fs
  induction fs with
  | nil => intro j k h; simp at h
  | cons a fs ih =>
    intro j k h
    have low : ∀ (gs : List (Nat ⊕ Bool)) (i q : Nat), q < i → fvals ad (setI st id q v) id i gs = fvals ad st id i gs := by
      intro gs
      induction gs with
      | nil => intro i q _; rfl
      | cons b gs ih2 =>
        intro i q hq
        simp only [fvals]
        rw [ih2 (i + 1) q (by omega)]
        congr 1
        match b with
        | .inl t => rfl
        | .inr false => simp only [fval, setI, ↓reduceIte]; rw [pk_un (by omega)]
        | .inr true => rfl
    cases k with
    | zero =>
      simp only [List.getElem?_cons_zero, Option.some.injEq] at h
      subst h
      simp only [fvals, List.set_cons_zero]
      have hlow := low fs (j + 1) j (by omega)
      simp only [Nat.add_zero, hlow]
      simp only [fval, setI, ↓reduceIte]
      rw [pk_us]
    | succ k =>
      simp only [List.getElem?_cons_succ] at h
      simp only [fvals, List.set_cons_succ]
      rw [ih (j + 1) k h]
      have e : j + 1 + k = j + (k + 1) := by omega
      rw [e]
      congr 1
      match a with
      | .inl t => rfl
      | .inr false => simp only [fval, setI, ↓reduceIte]; rw [pk_un (by omega)]
      | .inr true => rfl
theorem fvals_setJ {ad : Nat → Nat} {st : St} {id : Nat} {v : Int64} : ∀ (fs : List (Nat ⊕ Bool)) (j k : Nat), fs[k]? = some (.inr true) → (fvals ad st id j fs).set k (.long v) = fvals ad (setJ st id (j + k) v) id j fs := by
  intro fs
  induction fs with
  | nil => intro j k h; simp at h
  | cons a fs ih =>
    intro j k h
    have low : ∀ (gs : List (Nat ⊕ Bool)) (i q : Nat), q < i → fvals ad (setJ st id q v) id i gs = fvals ad st id i gs := by
      intro gs
      induction gs with
      | nil => intro i q _; rfl
      | cons b gs ih2 =>
        intro i q hq
        simp only [fvals]
        rw [ih2 (i + 1) q (by omega)]
        congr 1
        match b with
        | .inl t => rfl
        | .inr false => rfl
        | .inr true => simp only [fval, setJ, ↓reduceIte]; rw [pk_uLn (by omega)]
    cases k with
    | zero =>
      simp only [List.getElem?_cons_zero, Option.some.injEq] at h
      subst h
      simp only [fvals, List.set_cons_zero]
      have hlow := low fs (j + 1) j (by omega)
      simp only [Nat.add_zero, hlow]
      simp only [fval, setJ, ↓reduceIte]
      rw [pk_uLs]
    | succ k =>
      simp only [List.getElem?_cons_succ] at h
      simp only [fvals, List.set_cons_succ]
      rw [ih (j + 1) k h]
      have e : j + 1 + k = j + (k + 1) := by omega
      rw [e]
      congr 1
      match a with
      | .inl t => rfl
      | .inr false => rfl
      | .inr true => simp only [fval, setJ, ↓reduceIte]; rw [pk_uLn (by omega)]
theorem setI_off {st : St} {o k : Nat} {v : Int32} : ∀ j, j ≠ o → (setI st o k v).1 j = st.1 j ∧ (setI st o k v).2 j = st.2 j := fun j h => ⟨if_neg h, rfl⟩
theorem setJ_off {st : St} {o k : Nat} {v : Int64} : ∀ j, j ≠ o → (setJ st o k v).1 j = st.1 j ∧ (setJ st o k v).2 j = st.2 j := fun j h => ⟨rfl, if_neg h⟩
/-- putfield of an int (or a boolean that is 0 or 1) -/
theorem g_putI (hexec : p.tables.exec = Jvm.exec) (hb : c.code = cc) {own C : String} {T : u_T} {N ci index : Nat} {Ts : List Cond} (hts : ∀ w ∈ Ts, w.before args s = true) (hin : ∀ w ∈ u_ws C T N, w ∈ Ts) {ty0 : Nat → FieldType} (hty : ∀ k, k < N → parseFieldDescriptor (T k).2.2.1 = some (ty0 k)) (hnm : ∀ a, a < N → ∀ b, b < N → a ≠ b → (T a).2.1 ≠ (T b).2.1) (hown : s.vm.findClass own = some m.cls) (hK : KK D G s) (had : Adr ad) (hP : va_P D vwCl (SW G ad st) H) (hS : va_S (AA ad sz) H0 H locs) (o : Nat) {fs : List (Nat ⊕ Bool)} (hd : ctab[o]? = some (.inl (ci, fs))) (hc : vwCl[ci]? = some (C, T, N)) (k : Nat) (hk : k < N) (hlink : (Cond.fieldLink own index (T k).1 (T k).2.1 (T k).2.2.1).before args s = true) (hf : fs[k]? = some (.inr false)) (hfin : (T k).2.2.2 = false) {ty : FieldType} {v : Int32} (hd2 : parseFieldDescriptor (T k).2.2.1 = some ty) (hn : narrow ty (.int v) = .int v) (hfit : fits ty (.int v) = true) (hdg : decode cc pc = .ok (.putfield index, 3))
    (kk : ∀ (H1 : Heap) (locs1 : List Loc), va_P D vwCl (SW G ad (setI st o k v)) H1 → va_S (AA ad sz) H0 H1 locs1 → W p l e R s m args below meth c H1 locs1 cells slots Q (F0 m (pc + 3) ls rest)) : W p l e R s m args below meth c H locs cells slots Q (F0 m pc ls (.int v :: .ref (ad o) :: rest)) := by
  refine va_put hexec hb hts hin ty0 hty hnm hown hK.1 hP (SW_D had) hS o (fv_at hd) hc k hk hlink (fun _ h => h) hfin hd2 hn hfit (by rw [fvals_len]; exact (List.getElem?_eq_some_iff.mp hf).1) hdg (fun H1 locs1 hP1 _ hS1 => kk H1 locs1 ?_ hS1)
  have e := SW_set (G := G) (ad := ad) (st := st) (st' := setI st o k v) (E := .inr (ci, (fvals ad st o 0 fs).set k (.int v))) hd (by
    have h := fvals_setI (ad := ad) (st := st) (id := o) (v := v) fs 0 k hf
    rw [Nat.zero_add] at h
    simp only [cellE]; rw [h]) setI_off
  rw [← e]; exact hP1
theorem g_putJ (hexec : p.tables.exec = Jvm.exec) (hb : c.code = cc) {own C : String} {T : u_T} {N ci index : Nat} {Ts : List Cond} (hts : ∀ w ∈ Ts, w.before args s = true) (hin : ∀ w ∈ u_ws C T N, w ∈ Ts) {ty0 : Nat → FieldType} (hty : ∀ k, k < N → parseFieldDescriptor (T k).2.2.1 = some (ty0 k)) (hnm : ∀ a, a < N → ∀ b, b < N → a ≠ b → (T a).2.1 ≠ (T b).2.1) (hown : s.vm.findClass own = some m.cls) (hK : KK D G s) (had : Adr ad) (hP : va_P D vwCl (SW G ad st) H) (hS : va_S (AA ad sz) H0 H locs) (o : Nat) {fs : List (Nat ⊕ Bool)} (hd : ctab[o]? = some (.inl (ci, fs))) (hc : vwCl[ci]? = some (C, T, N)) (k : Nat) (hk : k < N) (hlink : (Cond.fieldLink own index (T k).1 (T k).2.1 (T k).2.2.1).before args s = true) (hf : fs[k]? = some (.inr true)) (hfin : (T k).2.2.2 = false) {v : Int64} (hd2 : parseFieldDescriptor (T k).2.2.1 = some .long) (hdg : decode cc pc = .ok (.putfield index, 3))
    (kk : ∀ (H1 : Heap) (locs1 : List Loc), va_P D vwCl (SW G ad (setJ st o k v)) H1 → va_S (AA ad sz) H0 H1 locs1 → W p l e R s m args below meth c H1 locs1 cells slots Q (F0 m (pc + 3) ls rest)) : W p l e R s m args below meth c H locs cells slots Q (F0 m pc ls (.long v :: .ref (ad o) :: rest)) := by
  refine va_put hexec hb hts hin ty0 hty hnm hown hK.1 hP (SW_D had) hS o (fv_at hd) hc k hk hlink (fun _ h => h) hfin hd2 rfl rfl (by rw [fvals_len]; exact (List.getElem?_eq_some_iff.mp hf).1) hdg (fun H1 locs1 hP1 _ hS1 => kk H1 locs1 ?_ hS1)
  have e := SW_set (G := G) (ad := ad) (st := st) (st' := setJ st o k v) (E := .inr (ci, (fvals ad st o 0 fs).set k (.long v))) hd (by
    have h := fvals_setJ (ad := ad) (st := st) (id := o) (v := v) fs 0 k hf
    rw [Nat.zero_add] at h
    simp only [cellE]; rw [h]) setJ_off
  rw [← e]; exact hP1
theorem g_iald (hexec : p.tables.exec = Jvm.exec) (hb : c.code = cc) (hK : KK D G s) (hP : va_P D vwCl (SW G ad st) H) (o : Nat) {n : Nat} (hd : ctab[o]? = some (.inr (n, 0))) {i : Int32} (hin : inb i n = true) (hdg : decode cc pc = .ok (.iaload, 1))
    (kk : W p l e R s m args below meth c H locs cells slots Q (F0 m (pc + 1) ls (.int (st.1 o i.toNatClampNeg) :: rest))) : W p l e R s m args below meth c H locs cells slots Q (F0 m pc ls (.int i :: .ref (ad o) :: rest)) :=
  va_iald hexec hb hK.1 hP o 0 (SW_get hd) rfl (inb_in hin) hdg kk
theorem g_lald (hexec : p.tables.exec = Jvm.exec) (hb : c.code = cc) (hK : KK D G s) (hP : va_P D vwCl (SW G ad st) H) (o : Nat) {n : Nat} (hd : ctab[o]? = some (.inr (n, 1))) {i : Int32} (hin : inb i n = true) (hdg : decode cc pc = .ok (.laload, 1))
    (kk : W p l e R s m args below meth c H locs cells slots Q (F0 m (pc + 1) ls (.long (st.2 o i.toNatClampNeg) :: rest))) : W p l e R s m args below meth c H locs cells slots Q (F0 m pc ls (.int i :: .ref (ad o) :: rest)) :=
  va_lald hexec hb hK.1 hP o 1 (SW_get hd) rfl (inb_in hin) hdg kk
theorem g_aald (hexec : p.tables.exec = Jvm.exec) (hb : c.code = cc) (hK : KK D G s) (hP : va_P D vwCl (SW G ad st) H) (o : Nat) {n : Nat} (hd : ctab[o]? = some (.inr (n, 2))) {i : Int32} (hin : inb i n = true) (hdg : decode cc pc = .ok (.aaload, 1))
    (kk : W p l e R s m args below meth c H locs cells slots Q (F0 m (pc + 1) ls (.ref (ad (53 + 11 * i.toNatClampNeg)) :: rest))) : W p l e R s m args below meth c H locs cells slots Q (F0 m pc ls (.int i :: .ref (ad o) :: rest)) :=
  va_aldq hexec hb hK.1 hP o 2 (SW_get hd) rfl (inb_in hin) hdg kk
theorem g_alen (hexec : p.tables.exec = Jvm.exec) (hb : c.code = cc) (hK : KK D G s) (hP : va_P D vwCl (SW G ad st) H) (o : Nat) {n k : Nat} (hd : ctab[o]? = some (.inr (n, k))) (hdg : decode cc pc = .ok (.arraylength, 1))
    (kk : W p l e R s m args below meth c H locs cells slots Q (F0 m (pc + 1) ls (.int (Int32.ofNat n) :: rest))) : W p l e R s m args below meth c H locs cells slots Q (F0 m pc ls (.ref (ad o) :: rest)) := by
  match k with
  | 0 => exact va_alen hexec hb hK.1 hP o 0 (SW_get hd) (ty := .int) rfl rfl hdg kk
  | 1 => exact va_alen hexec hb hK.1 hP o 1 (SW_get hd) (ty := .long) rfl rfl hdg kk
  | j + 2 => exact va_alen hexec hb hK.1 hP o 2 (SW_get hd) (ty := .object "OrderEcho$Flow") rfl rfl hdg kk
theorem g_iast (hexec : p.tables.exec = Jvm.exec) (hb : c.code = cc) (hK : KK D G s) (had : Adr ad) (hP : va_P D vwCl (SW G ad st) H) (hS : va_S (AA ad sz) H0 H locs) (o : Nat) {n : Nat} (hd : ctab[o]? = some (.inr (n, 0))) {i x : Int32} (hin : inb i n = true) (hdg : decode cc pc = .ok (.iastore, 1))
    (kk : ∀ (H1 : Heap) (locs1 : List Loc), va_P D vwCl (SW G ad (setI st o i.toNatClampNeg x)) H1 → va_S (AA ad sz) H0 H1 locs1 → W p l e R s m args below meth c H1 locs1 cells slots Q (F0 m (pc + 1) ls rest)) : W p l e R s m args below meth c H locs cells slots Q (F0 m pc ls (.int x :: .int i :: .ref (ad o) :: rest)) := by
  refine va_iast hexec hb hK.1 hP (SW_D had) hS o 0 (SW_get hd) rfl (inb_in hin) hdg (fun H1 locs1 hP1 _ hS1 => kk H1 locs1 ?_ hS1)
  rw [← SW_set (st := st) (st' := setI st o i.toNatClampNeg x) (E := .inl (G.1, n, .inl (upd (st.1 o) i.toNatClampNeg x))) hd (by simp only [cellE, setI, ↓reduceIte]) setI_off]
  exact hP1
theorem g_last (hexec : p.tables.exec = Jvm.exec) (hb : c.code = cc) (hK : KK D G s) (had : Adr ad) (hP : va_P D vwCl (SW G ad st) H) (hS : va_S (AA ad sz) H0 H locs) (o : Nat) {n : Nat} (hd : ctab[o]? = some (.inr (n, 1))) {i : Int32} {x : Int64} (hin : inb i n = true) (hdg : decode cc pc = .ok (.lastore, 1))
    (kk : ∀ (H1 : Heap) (locs1 : List Loc), va_P D vwCl (SW G ad (setJ st o i.toNatClampNeg x)) H1 → va_S (AA ad sz) H0 H1 locs1 → W p l e R s m args below meth c H1 locs1 cells slots Q (F0 m (pc + 1) ls rest)) : W p l e R s m args below meth c H locs cells slots Q (F0 m pc ls (.long x :: .int i :: .ref (ad o) :: rest)) := by
  refine va_last hexec hb hK.1 hP (SW_D had) hS o 1 (SW_get hd) rfl (inb_in hin) hdg (fun H1 locs1 hP1 _ hS1 => kk H1 locs1 ?_ hS1)
  rw [← SW_set (st := st) (st' := setJ st o i.toNatClampNeg x) (E := .inl (G.2.1, n, .inr (.inl (vp_updL (st.2 o) i.toNatClampNeg x)))) hd (by simp only [cellE, setJ, ↓reduceIte]) setJ_off]
  exact hP1
end GR
