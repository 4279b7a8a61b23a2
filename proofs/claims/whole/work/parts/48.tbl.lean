theorem wm_1_0 : Cond.classLink RL 7 RX10 ∈ wsL_law := in_r1 _ (mm_at 0 rfl)
theorem wm_1_1 : Cond.instantiable RX10 16 ∈ wsL_law := in_r1 _ (mm_at 1 rfl)
theorem wm_1_3 : Cond.classLink RL 10 RX11 ∈ wsL_law := in_r1 _ (mm_at 3 rfl)
theorem wm_1_4 : Cond.instantiable RX11 76 ∈ wsL_law := in_r1 _ (mm_at 4 rfl)
theorem wm_1_7 : Cond.methodLink RL 9 yX10_init ∈ wsL_law := in_r1 _ (mm_at 7 rfl)
theorem wm_1_8 : Cond.instanceMethod yX10_init ∈ wsL_law := in_r1 _ (mm_at 8 rfl)
theorem wm_1_9 : Cond.code yX10_init cX10_init 2 none ∈ wsL_law := in_r1 _ (mm_at 9 rfl)
theorem wm_6_22 : Cond.methodLink RL 12 yX11_init ∈ wsL_law := in_r6 _ (mm_at 22 rfl)
theorem wm_6_23 : Cond.instanceMethod yX11_init ∈ wsL_law := in_r6 _ (mm_at 23 rfl)
theorem wm_7_0 : Cond.code yX11_init cX11_init 1 none ∈ wsL_law := in_r7 _ (mm_at 0 rfl)
theorem in_sel : ∀ w ∈ k2_sels lw_privs, w ∈ lw_tbl := fun _ h => List.mem_append_left _ h
theorem in_t1 : ∀ w ∈ tables_1_1, w ∈ lw_tbl := fun _ h => List.mem_append_right _ (List.mem_append_left _ h)
theorem in_t2 : ∀ w ∈ tables_1_2, w ∈ lw_tbl := fun _ h => List.mem_append_right _ (List.mem_append_right _ (List.mem_append_left _ h))
theorem in_t3 : ∀ w ∈ tables_1_3, w ∈ lw_tbl := fun _ h => List.mem_append_right _ (List.mem_append_right _ (List.mem_append_right _ (List.mem_append_left _ h)))
theorem in_t4 : ∀ w ∈ tables_1_4, w ∈ lw_tbl := fun _ h => List.mem_append_right _ (List.mem_append_right _ (List.mem_append_right _ (List.mem_append_right _ (List.mem_append_left _ h))))
theorem in_t5 : ∀ w ∈ tables_1_5, w ∈ lw_tbl := fun _ h => List.mem_append_right _ (List.mem_append_right _ (List.mem_append_right _ (List.mem_append_right _ (List.mem_append_right _ (List.mem_append_left _ h)))))
theorem in_t6 : ∀ w ∈ tables_1_6, w ∈ lw_tbl := fun _ h => List.mem_append_right _ (List.mem_append_right _ (List.mem_append_right _ (List.mem_append_right _ (List.mem_append_right _ (List.mem_append_right _ (List.mem_append_left _ h))))))
theorem in_t7 : ∀ w ∈ tables_1_7, w ∈ lw_tbl := fun _ h => List.mem_append_right _ (List.mem_append_right _ (List.mem_append_right _ (List.mem_append_right _ (List.mem_append_right _ (List.mem_append_right _ (List.mem_append_right _ (h)))))))
set_option maxRecDepth 20000 in
theorem tb_r1 : ∀ w ∈ wsL_law_r1, w ∈ lw_tbl := List.forall_mem_cons.mpr ⟨(in_t1 _ (mm_at 20 rfl)), List.forall_mem_cons.mpr ⟨(in_t1 _ (mm_at 21 rfl)), List.forall_mem_cons.mpr ⟨(in_t1 _ (mm_at 1 rfl)), List.forall_mem_cons.mpr ⟨(in_t5 _ (mm_at 13 rfl)), List.forall_mem_cons.mpr ⟨(in_t5 _ (mm_at 14 rfl)), List.forall_mem_cons.mpr ⟨(in_t1 _ (mm_at 12 rfl)), List.forall_mem_cons.mpr ⟨(in_t7 _ (mm_at 105 rfl)), List.forall_mem_cons.mpr ⟨(in_t1 _ (mm_at 22 rfl)), List.forall_mem_cons.mpr ⟨(in_t1 _ (mm_at 23 rfl)), List.forall_mem_cons.mpr ⟨(in_t1 _ (mm_at 24 rfl)), List.forall_mem_cons.mpr ⟨(in_t1 _ (mm_at 25 rfl)), List.forall_mem_cons.mpr ⟨(in_t1 _ (mm_at 26 rfl)), List.forall_mem_cons.mpr ⟨(in_t1 _ (mm_at 27 rfl)), List.forall_mem_cons.mpr ⟨(in_t1 _ (mm_at 28 rfl)), List.forall_mem_cons.mpr ⟨(in_t1 _ (mm_at 29 rfl)), List.forall_mem_cons.mpr ⟨(in_t1 _ (mm_at 2 rfl)), List.forall_mem_cons.mpr ⟨(in_t2 _ (mm_at 126 rfl)), List.forall_mem_cons.mpr ⟨(in_t1 _ (mm_at 96 rfl)), List.forall_mem_cons.mpr ⟨(in_t1 _ (mm_at 97 rfl)), List.forall_mem_cons.mpr ⟨(in_t1 _ (mm_at 3 rfl)), List.forall_mem_cons.mpr ⟨(in_t2 _ (mm_at 127 rfl)), List.forall_mem_cons.mpr ⟨(in_t1 _ (mm_at 117 rfl)), List.forall_mem_cons.mpr ⟨(in_t1 _ (mm_at 118 rfl)), List.forall_mem_cons.mpr ⟨(in_t1 _ (mm_at 4 rfl)), fun _ h => absurd h List.not_mem_nil⟩⟩⟩⟩⟩⟩⟩⟩⟩⟩⟩⟩⟩⟩⟩⟩⟩⟩⟩⟩⟩⟩⟩⟩
set_option maxRecDepth 20000 in
theorem tb_r2 : ∀ w ∈ wsL_law_r2, w ∈ lw_tbl := List.forall_mem_cons.mpr ⟨(in_t2 _ (mm_at 128 rfl)), List.forall_mem_cons.mpr ⟨(in_t1 _ (mm_at 143 rfl)), List.forall_mem_cons.mpr ⟨(in_t1 _ (mm_at 144 rfl)), List.forall_mem_cons.mpr ⟨(in_t1 _ (mm_at 5 rfl)), List.forall_mem_cons.mpr ⟨(in_t2 _ (mm_at 129 rfl)), List.forall_mem_cons.mpr ⟨(in_t1 _ (mm_at 164 rfl)), List.forall_mem_cons.mpr ⟨(in_t1 _ (mm_at 165 rfl)), List.forall_mem_cons.mpr ⟨(in_t1 _ (mm_at 6 rfl)), List.forall_mem_cons.mpr ⟨(in_t2 _ (mm_at 130 rfl)), List.forall_mem_cons.mpr ⟨(in_t1 _ (mm_at 177 rfl)), List.forall_mem_cons.mpr ⟨(in_t1 _ (mm_at 178 rfl)), List.forall_mem_cons.mpr ⟨(in_t1 _ (mm_at 7 rfl)), List.forall_mem_cons.mpr ⟨(in_t2 _ (mm_at 131 rfl)), List.forall_mem_cons.mpr ⟨(in_t2 _ (mm_at 1 rfl)), List.forall_mem_cons.mpr ⟨(in_t1 _ (mm_at 184 rfl)), List.forall_mem_cons.mpr ⟨(in_t1 _ (mm_at 8 rfl)), List.forall_mem_cons.mpr ⟨(in_t2 _ (mm_at 132 rfl)), List.forall_mem_cons.mpr ⟨(in_t2 _ (mm_at 3 rfl)), List.forall_mem_cons.mpr ⟨(in_t2 _ (mm_at 4 rfl)), List.forall_mem_cons.mpr ⟨(in_t1 _ (mm_at 9 rfl)), List.forall_mem_cons.mpr ⟨(in_t2 _ (mm_at 133 rfl)), List.forall_mem_cons.mpr ⟨(in_t2 _ (mm_at 49 rfl)), List.forall_mem_cons.mpr ⟨(in_t2 _ (mm_at 50 rfl)), List.forall_mem_cons.mpr ⟨(in_t1 _ (mm_at 10 rfl)), fun _ h => absurd h List.not_mem_nil⟩⟩⟩⟩⟩⟩⟩⟩⟩⟩⟩⟩⟩⟩⟩⟩⟩⟩⟩⟩⟩⟩⟩⟩
set_option maxRecDepth 20000 in
theorem tb_r3 : ∀ w ∈ wsL_law_r3, w ∈ lw_tbl := List.forall_mem_cons.mpr ⟨(in_t2 _ (mm_at 134 rfl)), List.forall_mem_cons.mpr ⟨(in_t1 _ (mm_at 116 rfl)), List.forall_mem_cons.mpr ⟨(in_t2 _ (mm_at 135 rfl)), List.forall_mem_cons.mpr ⟨(in_t2 _ (mm_at 64 rfl)), List.forall_mem_cons.mpr ⟨(in_t2 _ (mm_at 136 rfl)), List.forall_mem_cons.mpr ⟨(in_t2 _ (mm_at 66 rfl)), List.forall_mem_cons.mpr ⟨(in_t1 _ (mm_at 11 rfl)), List.forall_mem_cons.mpr ⟨(in_t2 _ (mm_at 137 rfl)), List.forall_mem_cons.mpr ⟨(in_t1 _ (mm_at 95 rfl)), List.forall_mem_cons.mpr ⟨(in_t2 _ (mm_at 138 rfl)), List.forall_mem_cons.mpr ⟨(in_t2 _ (mm_at 139 rfl)), List.forall_mem_cons.mpr ⟨(in_t2 _ (mm_at 140 rfl)), List.forall_mem_cons.mpr ⟨(in_t1 _ (mm_at 31 rfl)), List.forall_mem_cons.mpr ⟨(in_t1 _ (mm_at 32 rfl)), List.forall_mem_cons.mpr ⟨(in_t1 _ (mm_at 33 rfl)), List.forall_mem_cons.mpr ⟨(in_t1 _ (mm_at 34 rfl)), List.forall_mem_cons.mpr ⟨(in_t1 _ (mm_at 37 rfl)), List.forall_mem_cons.mpr ⟨(in_t1 _ (mm_at 40 rfl)), List.forall_mem_cons.mpr ⟨(in_t1 _ (mm_at 43 rfl)), List.forall_mem_cons.mpr ⟨(in_t1 _ (mm_at 46 rfl)), List.forall_mem_cons.mpr ⟨(in_t1 _ (mm_at 49 rfl)), List.forall_mem_cons.mpr ⟨(in_t1 _ (mm_at 52 rfl)), List.forall_mem_cons.mpr ⟨(in_t1 _ (mm_at 54 rfl)), List.forall_mem_cons.mpr ⟨(in_t1 _ (mm_at 56 rfl)), fun _ h => absurd h List.not_mem_nil⟩⟩⟩⟩⟩⟩⟩⟩⟩⟩⟩⟩⟩⟩⟩⟩⟩⟩⟩⟩⟩⟩⟩⟩
set_option maxRecDepth 20000 in
theorem tb_r4 : ∀ w ∈ wsL_law_r4, w ∈ lw_tbl := List.forall_mem_cons.mpr ⟨(in_t1 _ (mm_at 99 rfl)), List.forall_mem_cons.mpr ⟨(in_t1 _ (mm_at 100 rfl)), List.forall_mem_cons.mpr ⟨(in_t1 _ (mm_at 101 rfl)), List.forall_mem_cons.mpr ⟨(in_t1 _ (mm_at 102 rfl)), List.forall_mem_cons.mpr ⟨(in_t1 _ (mm_at 103 rfl)), List.forall_mem_cons.mpr ⟨(in_t1 _ (mm_at 104 rfl)), List.forall_mem_cons.mpr ⟨(in_t1 _ (mm_at 120 rfl)), List.forall_mem_cons.mpr ⟨(in_t1 _ (mm_at 121 rfl)), List.forall_mem_cons.mpr ⟨(in_t1 _ (mm_at 122 rfl)), List.forall_mem_cons.mpr ⟨(in_t1 _ (mm_at 123 rfl)), List.forall_mem_cons.mpr ⟨(in_t1 _ (mm_at 124 rfl)), List.forall_mem_cons.mpr ⟨(in_t1 _ (mm_at 146 rfl)), List.forall_mem_cons.mpr ⟨(in_t1 _ (mm_at 147 rfl)), List.forall_mem_cons.mpr ⟨(in_t1 _ (mm_at 148 rfl)), List.forall_mem_cons.mpr ⟨(in_t1 _ (mm_at 149 rfl)), List.forall_mem_cons.mpr ⟨(in_t1 _ (mm_at 151 rfl)), List.forall_mem_cons.mpr ⟨(in_t1 _ (mm_at 167 rfl)), List.forall_mem_cons.mpr ⟨(in_t1 _ (mm_at 168 rfl)), List.forall_mem_cons.mpr ⟨(in_t1 _ (mm_at 169 rfl)), List.forall_mem_cons.mpr ⟨(in_t1 _ (mm_at 170 rfl)), List.forall_mem_cons.mpr ⟨(in_t1 _ (mm_at 171 rfl)), List.forall_mem_cons.mpr ⟨(in_t1 _ (mm_at 179 rfl)), List.forall_mem_cons.mpr ⟨(in_t1 _ (mm_at 180 rfl)), List.forall_mem_cons.mpr ⟨(in_t1 _ (mm_at 181 rfl)), fun _ h => absurd h List.not_mem_nil⟩⟩⟩⟩⟩⟩⟩⟩⟩⟩⟩⟩⟩⟩⟩⟩⟩⟩⟩⟩⟩⟩⟩⟩
set_option maxRecDepth 20000 in
theorem tb_r5 : ∀ w ∈ wsL_law_r5, w ∈ lw_tbl := List.forall_mem_cons.mpr ⟨(in_t1 _ (mm_at 182 rfl)), List.forall_mem_cons.mpr ⟨(in_t1 _ (mm_at 183 rfl)), List.forall_mem_cons.mpr ⟨(in_t1 _ (mm_at 201 rfl)), List.forall_mem_cons.mpr ⟨(in_t1 _ (mm_at 203 rfl)), List.forall_mem_cons.mpr ⟨(in_t1 _ (mm_at 205 rfl)), List.forall_mem_cons.mpr ⟨(in_t1 _ (mm_at 207 rfl)), List.forall_mem_cons.mpr ⟨(in_t1 _ (mm_at 208 rfl)), List.forall_mem_cons.mpr ⟨(in_t1 _ (mm_at 209 rfl)), List.forall_mem_cons.mpr ⟨(in_t1 _ (mm_at 210 rfl)), List.forall_mem_cons.mpr ⟨(in_t1 _ (mm_at 211 rfl)), List.forall_mem_cons.mpr ⟨(in_t1 _ (mm_at 213 rfl)), List.forall_mem_cons.mpr ⟨(in_t1 _ (mm_at 214 rfl)), List.forall_mem_cons.mpr ⟨(in_t1 _ (mm_at 216 rfl)), List.forall_mem_cons.mpr ⟨(in_t1 _ (mm_at 189 rfl)), List.forall_mem_cons.mpr ⟨(in_t1 _ (mm_at 186 rfl)), List.forall_mem_cons.mpr ⟨(in_t1 _ (mm_at 187 rfl)), List.forall_mem_cons.mpr ⟨(in_t1 _ (mm_at 188 rfl)), List.forall_mem_cons.mpr ⟨(in_t1 _ (mm_at 191 rfl)), List.forall_mem_cons.mpr ⟨(in_t2 _ (mm_at 5 rfl)), List.forall_mem_cons.mpr ⟨(in_t2 _ (mm_at 6 rfl)), List.forall_mem_cons.mpr ⟨(in_t2 _ (mm_at 7 rfl)), List.forall_mem_cons.mpr ⟨(in_t2 _ (mm_at 8 rfl)), List.forall_mem_cons.mpr ⟨(in_t2 _ (mm_at 9 rfl)), List.forall_mem_cons.mpr ⟨(in_t2 _ (mm_at 11 rfl)), fun _ h => absurd h List.not_mem_nil⟩⟩⟩⟩⟩⟩⟩⟩⟩⟩⟩⟩⟩⟩⟩⟩⟩⟩⟩⟩⟩⟩⟩⟩
set_option maxRecDepth 20000 in
theorem tb_r6 : ∀ w ∈ wsL_law_r6, w ∈ lw_tbl := List.forall_mem_cons.mpr ⟨(in_t2 _ (mm_at 13 rfl)), List.forall_mem_cons.mpr ⟨(in_t2 _ (mm_at 14 rfl)), List.forall_mem_cons.mpr ⟨(in_t2 _ (mm_at 15 rfl)), List.forall_mem_cons.mpr ⟨(in_t2 _ (mm_at 52 rfl)), List.forall_mem_cons.mpr ⟨(in_t2 _ (mm_at 53 rfl)), List.forall_mem_cons.mpr ⟨(in_t2 _ (mm_at 54 rfl)), List.forall_mem_cons.mpr ⟨(in_t2 _ (mm_at 55 rfl)), List.forall_mem_cons.mpr ⟨(in_t2 _ (mm_at 57 rfl)), List.forall_mem_cons.mpr ⟨(in_t2 _ (mm_at 58 rfl)), List.forall_mem_cons.mpr ⟨(in_t2 _ (mm_at 68 rfl)), List.forall_mem_cons.mpr ⟨(in_t2 _ (mm_at 69 rfl)), List.forall_mem_cons.mpr ⟨(in_t2 _ (mm_at 70 rfl)), List.forall_mem_cons.mpr ⟨(in_t2 _ (mm_at 71 rfl)), List.forall_mem_cons.mpr ⟨(in_t2 _ (mm_at 73 rfl)), List.forall_mem_cons.mpr ⟨(in_t2 _ (mm_at 75 rfl)), List.forall_mem_cons.mpr ⟨(in_t2 _ (mm_at 77 rfl)), List.forall_mem_cons.mpr ⟨(in_t2 _ (mm_at 79 rfl)), List.forall_mem_cons.mpr ⟨(in_t2 _ (mm_at 81 rfl)), List.forall_mem_cons.mpr ⟨(in_t2 _ (mm_at 82 rfl)), List.forall_mem_cons.mpr ⟨(in_t2 _ (mm_at 84 rfl)), List.forall_mem_cons.mpr ⟨(in_t2 _ (mm_at 87 rfl)), List.forall_mem_cons.mpr ⟨(in_t2 _ (mm_at 90 rfl)), List.forall_mem_cons.mpr ⟨(in_t5 _ (mm_at 15 rfl)), List.forall_mem_cons.mpr ⟨(in_t5 _ (mm_at 16 rfl)), fun _ h => absurd h List.not_mem_nil⟩⟩⟩⟩⟩⟩⟩⟩⟩⟩⟩⟩⟩⟩⟩⟩⟩⟩⟩⟩⟩⟩⟩⟩
set_option maxRecDepth 20000 in
theorem tb_r7 : ∀ w ∈ wsL_law_r7, w ∈ lw_tbl := List.forall_mem_cons.mpr ⟨(in_t5 _ (mm_at 17 rfl)), List.forall_mem_cons.mpr ⟨(in_t5 _ (mm_at 18 rfl)), List.forall_mem_cons.mpr ⟨(in_t5 _ (mm_at 20 rfl)), List.forall_mem_cons.mpr ⟨(in_t5 _ (mm_at 21 rfl)), List.forall_mem_cons.mpr ⟨(in_t5 _ (mm_at 22 rfl)), List.forall_mem_cons.mpr ⟨(in_t5 _ (mm_at 23 rfl)), List.forall_mem_cons.mpr ⟨(in_t5 _ (mm_at 24 rfl)), List.forall_mem_cons.mpr ⟨(in_t5 _ (mm_at 25 rfl)), List.forall_mem_cons.mpr ⟨(in_t5 _ (mm_at 26 rfl)), List.forall_mem_cons.mpr ⟨(in_t5 _ (mm_at 27 rfl)), List.forall_mem_cons.mpr ⟨(in_t5 _ (mm_at 28 rfl)), List.forall_mem_cons.mpr ⟨(in_t5 _ (mm_at 34 rfl)), List.forall_mem_cons.mpr ⟨(in_t5 _ (mm_at 35 rfl)), List.forall_mem_cons.mpr ⟨(in_t5 _ (mm_at 36 rfl)), List.forall_mem_cons.mpr ⟨(in_t5 _ (mm_at 37 rfl)), List.forall_mem_cons.mpr ⟨(in_t5 _ (mm_at 38 rfl)), List.forall_mem_cons.mpr ⟨(in_t5 _ (mm_at 39 rfl)), List.forall_mem_cons.mpr ⟨(in_t5 _ (mm_at 40 rfl)), List.forall_mem_cons.mpr ⟨(in_t5 _ (mm_at 41 rfl)), List.forall_mem_cons.mpr ⟨(in_t5 _ (mm_at 42 rfl)), List.forall_mem_cons.mpr ⟨(in_t5 _ (mm_at 43 rfl)), List.forall_mem_cons.mpr ⟨(in_t5 _ (mm_at 44 rfl)), List.forall_mem_cons.mpr ⟨(in_t5 _ (mm_at 45 rfl)), List.forall_mem_cons.mpr ⟨(in_t5 _ (mm_at 46 rfl)), fun _ h => absurd h List.not_mem_nil⟩⟩⟩⟩⟩⟩⟩⟩⟩⟩⟩⟩⟩⟩⟩⟩⟩⟩⟩⟩⟩⟩⟩⟩
set_option maxRecDepth 20000 in
theorem tb_r8 : ∀ w ∈ wsL_law_r8, w ∈ lw_tbl := List.forall_mem_cons.mpr ⟨(in_t5 _ (mm_at 48 rfl)), List.forall_mem_cons.mpr ⟨(in_t5 _ (mm_at 49 rfl)), List.forall_mem_cons.mpr ⟨(in_t5 _ (mm_at 50 rfl)), List.forall_mem_cons.mpr ⟨(in_t5 _ (mm_at 52 rfl)), List.forall_mem_cons.mpr ⟨(in_t5 _ (mm_at 53 rfl)), List.forall_mem_cons.mpr ⟨(in_t5 _ (mm_at 58 rfl)), List.forall_mem_cons.mpr ⟨(in_t5 _ (mm_at 59 rfl)), List.forall_mem_cons.mpr ⟨(in_t5 _ (mm_at 60 rfl)), List.forall_mem_cons.mpr ⟨(in_t5 _ (mm_at 61 rfl)), List.forall_mem_cons.mpr ⟨(in_t5 _ (mm_at 62 rfl)), List.forall_mem_cons.mpr ⟨(in_t5 _ (mm_at 63 rfl)), List.forall_mem_cons.mpr ⟨(in_t5 _ (mm_at 67 rfl)), List.forall_mem_cons.mpr ⟨(in_t5 _ (mm_at 68 rfl)), List.forall_mem_cons.mpr ⟨(in_t5 _ (mm_at 73 rfl)), List.forall_mem_cons.mpr ⟨(in_t5 _ (mm_at 74 rfl)), List.forall_mem_cons.mpr ⟨(in_t5 _ (mm_at 75 rfl)), List.forall_mem_cons.mpr ⟨(in_t5 _ (mm_at 76 rfl)), List.forall_mem_cons.mpr ⟨(in_t5 _ (mm_at 77 rfl)), List.forall_mem_cons.mpr ⟨(in_t5 _ (mm_at 78 rfl)), List.forall_mem_cons.mpr ⟨(in_t5 _ (mm_at 79 rfl)), List.forall_mem_cons.mpr ⟨(in_t5 _ (mm_at 85 rfl)), List.forall_mem_cons.mpr ⟨(in_t5 _ (mm_at 86 rfl)), List.forall_mem_cons.mpr ⟨(in_t5 _ (mm_at 87 rfl)), List.forall_mem_cons.mpr ⟨(in_t5 _ (mm_at 88 rfl)), fun _ h => absurd h List.not_mem_nil⟩⟩⟩⟩⟩⟩⟩⟩⟩⟩⟩⟩⟩⟩⟩⟩⟩⟩⟩⟩⟩⟩⟩⟩
set_option maxRecDepth 20000 in
theorem tb_r9 : ∀ w ∈ wsL_law_r9, w ∈ lw_tbl := List.forall_mem_cons.mpr ⟨(in_t5 _ (mm_at 89 rfl)), List.forall_mem_cons.mpr ⟨(in_t5 _ (mm_at 90 rfl)), List.forall_mem_cons.mpr ⟨(in_t5 _ (mm_at 91 rfl)), List.forall_mem_cons.mpr ⟨(in_t5 _ (mm_at 92 rfl)), List.forall_mem_cons.mpr ⟨(in_t5 _ (mm_at 93 rfl)), List.forall_mem_cons.mpr ⟨(in_t2 _ (mm_at 175 rfl)), List.forall_mem_cons.mpr ⟨(in_t2 _ (mm_at 176 rfl)), List.forall_mem_cons.mpr ⟨(in_t2 _ (mm_at 177 rfl)), List.forall_mem_cons.mpr ⟨(in_t2 _ (mm_at 178 rfl)), List.forall_mem_cons.mpr ⟨(in_t1 _ (mm_at 59 rfl)), List.forall_mem_cons.mpr ⟨(in_t2 _ (mm_at 93 rfl)), List.forall_mem_cons.mpr ⟨(in_t2 _ (mm_at 72 rfl)), List.forall_mem_cons.mpr ⟨(in_t2 _ (mm_at 179 rfl)), List.forall_mem_cons.mpr ⟨(in_t2 _ (mm_at 180 rfl)), List.forall_mem_cons.mpr ⟨(in_t2 _ (mm_at 181 rfl)), List.forall_mem_cons.mpr ⟨(in_t2 _ (mm_at 182 rfl)), List.forall_mem_cons.mpr ⟨(in_t1 _ (mm_at 60 rfl)), List.forall_mem_cons.mpr ⟨(in_t2 _ (mm_at 183 rfl)), List.forall_mem_cons.mpr ⟨(in_t2 _ (mm_at 184 rfl)), List.forall_mem_cons.mpr ⟨(in_t2 _ (mm_at 185 rfl)), List.forall_mem_cons.mpr ⟨(in_t2 _ (mm_at 186 rfl)), List.forall_mem_cons.mpr ⟨(in_t2 _ (mm_at 187 rfl)), List.forall_mem_cons.mpr ⟨(in_t2 _ (mm_at 188 rfl)), List.forall_mem_cons.mpr ⟨(in_t2 _ (mm_at 189 rfl)), fun _ h => absurd h List.not_mem_nil⟩⟩⟩⟩⟩⟩⟩⟩⟩⟩⟩⟩⟩⟩⟩⟩⟩⟩⟩⟩⟩⟩⟩⟩
set_option maxRecDepth 20000 in
theorem tb_r10 : ∀ w ∈ wsL_law_r10, w ∈ lw_tbl := List.forall_mem_cons.mpr ⟨(in_t2 _ (mm_at 190 rfl)), List.forall_mem_cons.mpr ⟨(in_t2 _ (mm_at 191 rfl)), List.forall_mem_cons.mpr ⟨(in_t2 _ (mm_at 192 rfl)), List.forall_mem_cons.mpr ⟨(in_t2 _ (mm_at 193 rfl)), List.forall_mem_cons.mpr ⟨(in_t2 _ (mm_at 194 rfl)), List.forall_mem_cons.mpr ⟨(in_t1 _ (mm_at 66 rfl)), List.forall_mem_cons.mpr ⟨(in_t1 _ (mm_at 62 rfl)), List.forall_mem_cons.mpr ⟨(in_t6 _ (mm_at 8 rfl)), List.forall_mem_cons.mpr ⟨(in_t6 _ (mm_at 9 rfl)), List.forall_mem_cons.mpr ⟨(in_t6 _ (mm_at 10 rfl)), List.forall_mem_cons.mpr ⟨(in_t6 _ (mm_at 11 rfl)), List.forall_mem_cons.mpr ⟨(in_t5 _ (mm_at 19 rfl)), List.forall_mem_cons.mpr ⟨(in_t6 _ (mm_at 19 rfl)), List.forall_mem_cons.mpr ⟨(in_t6 _ (mm_at 20 rfl)), List.forall_mem_cons.mpr ⟨(in_t6 _ (mm_at 21 rfl)), List.forall_mem_cons.mpr ⟨(in_t5 _ (mm_at 31 rfl)), List.forall_mem_cons.mpr ⟨(in_t5 _ (mm_at 30 rfl)), List.forall_mem_cons.mpr ⟨(in_t6 _ (mm_at 12 rfl)), List.forall_mem_cons.mpr ⟨(in_t6 _ (mm_at 14 rfl)), List.forall_mem_cons.mpr ⟨(in_sel _ (mm_at 29 rfl)), List.forall_mem_cons.mpr ⟨(in_t6 _ (mm_at 15 rfl)), List.forall_mem_cons.mpr ⟨(in_t6 _ (mm_at 16 rfl)), List.forall_mem_cons.mpr ⟨(in_t6 _ (mm_at 17 rfl)), List.forall_mem_cons.mpr ⟨(in_t6 _ (mm_at 18 rfl)), fun _ h => absurd h List.not_mem_nil⟩⟩⟩⟩⟩⟩⟩⟩⟩⟩⟩⟩⟩⟩⟩⟩⟩⟩⟩⟩⟩⟩⟩⟩
set_option maxRecDepth 20000 in
theorem tb_r11 : ∀ w ∈ wsL_law_r11, w ∈ lw_tbl := List.forall_mem_cons.mpr ⟨(in_t2 _ (mm_at 195 rfl)), List.forall_mem_cons.mpr ⟨(in_t2 _ (mm_at 196 rfl)), List.forall_mem_cons.mpr ⟨(in_t2 _ (mm_at 197 rfl)), List.forall_mem_cons.mpr ⟨(in_t2 _ (mm_at 198 rfl)), List.forall_mem_cons.mpr ⟨(in_t2 _ (mm_at 199 rfl)), List.forall_mem_cons.mpr ⟨(in_t2 _ (mm_at 200 rfl)), List.forall_mem_cons.mpr ⟨(in_t2 _ (mm_at 201 rfl)), List.forall_mem_cons.mpr ⟨(in_t2 _ (mm_at 202 rfl)), List.forall_mem_cons.mpr ⟨(in_t6 _ (mm_at 22 rfl)), List.forall_mem_cons.mpr ⟨(in_t6 _ (mm_at 23 rfl)), List.forall_mem_cons.mpr ⟨(in_t6 _ (mm_at 24 rfl)), List.forall_mem_cons.mpr ⟨(in_t6 _ (mm_at 25 rfl)), List.forall_mem_cons.mpr ⟨(in_t6 _ (mm_at 26 rfl)), List.forall_mem_cons.mpr ⟨(in_t6 _ (mm_at 27 rfl)), List.forall_mem_cons.mpr ⟨(in_t2 _ (mm_at 203 rfl)), List.forall_mem_cons.mpr ⟨(in_t2 _ (mm_at 204 rfl)), List.forall_mem_cons.mpr ⟨(in_t2 _ (mm_at 205 rfl)), List.forall_mem_cons.mpr ⟨(in_t2 _ (mm_at 206 rfl)), List.forall_mem_cons.mpr ⟨(in_t1 _ (mm_at 58 rfl)), List.forall_mem_cons.mpr ⟨(in_t2 _ (mm_at 207 rfl)), List.forall_mem_cons.mpr ⟨(in_t2 _ (mm_at 208 rfl)), List.forall_mem_cons.mpr ⟨(in_t2 _ (mm_at 209 rfl)), List.forall_mem_cons.mpr ⟨(in_t2 _ (mm_at 210 rfl)), List.forall_mem_cons.mpr ⟨(in_t1 _ (mm_at 105 rfl)), fun _ h => absurd h List.not_mem_nil⟩⟩⟩⟩⟩⟩⟩⟩⟩⟩⟩⟩⟩⟩⟩⟩⟩⟩⟩⟩⟩⟩⟩⟩
set_option maxRecDepth 20000 in
theorem tb_r12 : ∀ w ∈ wsL_law_r12, w ∈ lw_tbl := List.forall_mem_cons.mpr ⟨(in_t6 _ (mm_at 28 rfl)), List.forall_mem_cons.mpr ⟨(in_t6 _ (mm_at 29 rfl)), List.forall_mem_cons.mpr ⟨(in_t6 _ (mm_at 30 rfl)), List.forall_mem_cons.mpr ⟨(in_t6 _ (mm_at 31 rfl)), List.forall_mem_cons.mpr ⟨(in_t6 _ (mm_at 32 rfl)), List.forall_mem_cons.mpr ⟨(in_t5 _ (mm_at 47 rfl)), List.forall_mem_cons.mpr ⟨(in_t2 _ (mm_at 211 rfl)), List.forall_mem_cons.mpr ⟨(in_t2 _ (mm_at 212 rfl)), List.forall_mem_cons.mpr ⟨(in_t2 _ (mm_at 213 rfl)), List.forall_mem_cons.mpr ⟨(in_t2 _ (mm_at 214 rfl)), List.forall_mem_cons.mpr ⟨(in_t1 _ (mm_at 64 rfl)), List.forall_mem_cons.mpr ⟨(in_t6 _ (mm_at 33 rfl)), List.forall_mem_cons.mpr ⟨(in_t6 _ (mm_at 34 rfl)), List.forall_mem_cons.mpr ⟨(in_t6 _ (mm_at 35 rfl)), List.forall_mem_cons.mpr ⟨(in_t6 _ (mm_at 36 rfl)), List.forall_mem_cons.mpr ⟨(in_t6 _ (mm_at 37 rfl)), List.forall_mem_cons.mpr ⟨(in_t5 _ (mm_at 29 rfl)), List.forall_mem_cons.mpr ⟨(in_t2 _ (mm_at 215 rfl)), List.forall_mem_cons.mpr ⟨(in_t2 _ (mm_at 216 rfl)), List.forall_mem_cons.mpr ⟨(in_t2 _ (mm_at 217 rfl)), List.forall_mem_cons.mpr ⟨(in_t2 _ (mm_at 218 rfl)), List.forall_mem_cons.mpr ⟨(in_t1 _ (mm_at 35 rfl)), List.forall_mem_cons.mpr ⟨(in_t1 _ (mm_at 39 rfl)), List.forall_mem_cons.mpr ⟨(in_t1 _ (mm_at 41 rfl)), fun _ h => absurd h List.not_mem_nil⟩⟩⟩⟩⟩⟩⟩⟩⟩⟩⟩⟩⟩⟩⟩⟩⟩⟩⟩⟩⟩⟩⟩⟩
set_option maxRecDepth 20000 in
theorem tb_r13 : ∀ w ∈ wsL_law_r13, w ∈ lw_tbl := List.forall_mem_cons.mpr ⟨(in_t1 _ (mm_at 45 rfl)), List.forall_mem_cons.mpr ⟨(in_t1 _ (mm_at 47 rfl)), List.forall_mem_cons.mpr ⟨(in_t1 _ (mm_at 50 rfl)), List.forall_mem_cons.mpr ⟨(in_t2 _ (mm_at 78 rfl)), List.forall_mem_cons.mpr ⟨(in_t2 _ (mm_at 76 rfl)), List.forall_mem_cons.mpr ⟨(in_t2 _ (mm_at 86 rfl)), List.forall_mem_cons.mpr ⟨(in_t2 _ (mm_at 89 rfl)), List.forall_mem_cons.mpr ⟨(in_t2 _ (mm_at 83 rfl)), List.forall_mem_cons.mpr ⟨(in_t2 _ (mm_at 219 rfl)), List.forall_mem_cons.mpr ⟨(in_t2 _ (mm_at 220 rfl)), List.forall_mem_cons.mpr ⟨(in_t2 _ (mm_at 221 rfl)), List.forall_mem_cons.mpr ⟨(in_t2 _ (mm_at 222 rfl)), List.forall_mem_cons.mpr ⟨(in_t2 _ (mm_at 94 rfl)), List.forall_mem_cons.mpr ⟨(in_t6 _ (mm_at 38 rfl)), List.forall_mem_cons.mpr ⟨(in_t6 _ (mm_at 39 rfl)), List.forall_mem_cons.mpr ⟨(in_t6 _ (mm_at 40 rfl)), List.forall_mem_cons.mpr ⟨(in_t6 _ (mm_at 41 rfl)), List.forall_mem_cons.mpr ⟨(in_t6 _ (mm_at 42 rfl)), List.forall_mem_cons.mpr ⟨(in_t6 _ (mm_at 43 rfl)), List.forall_mem_cons.mpr ⟨(in_t6 _ (mm_at 45 rfl)), List.forall_mem_cons.mpr ⟨(in_sel _ (mm_at 30 rfl)), List.forall_mem_cons.mpr ⟨(in_t6 _ (mm_at 46 rfl)), List.forall_mem_cons.mpr ⟨(in_t6 _ (mm_at 47 rfl)), List.forall_mem_cons.mpr ⟨(in_t6 _ (mm_at 49 rfl)), fun _ h => absurd h List.not_mem_nil⟩⟩⟩⟩⟩⟩⟩⟩⟩⟩⟩⟩⟩⟩⟩⟩⟩⟩⟩⟩⟩⟩⟩⟩
set_option maxRecDepth 20000 in
theorem tb_r14 : ∀ w ∈ wsL_law_r14, w ∈ lw_tbl := List.forall_mem_cons.mpr ⟨(in_sel _ (mm_at 31 rfl)), List.forall_mem_cons.mpr ⟨(in_t6 _ (mm_at 50 rfl)), List.forall_mem_cons.mpr ⟨(in_t2 _ (mm_at 223 rfl)), List.forall_mem_cons.mpr ⟨(in_t2 _ (mm_at 224 rfl)), List.forall_mem_cons.mpr ⟨(in_t2 _ (mm_at 225 rfl)), List.forall_mem_cons.mpr ⟨(in_t2 _ (mm_at 226 rfl)), List.forall_mem_cons.mpr ⟨(in_t2 _ (mm_at 231 rfl)), List.forall_mem_cons.mpr ⟨(in_t2 _ (mm_at 227 rfl)), List.forall_mem_cons.mpr ⟨(in_t2 _ (mm_at 228 rfl)), List.forall_mem_cons.mpr ⟨(in_t2 _ (mm_at 229 rfl)), List.forall_mem_cons.mpr ⟨(in_t2 _ (mm_at 230 rfl)), List.forall_mem_cons.mpr ⟨(in_t6 _ (mm_at 51 rfl)), List.forall_mem_cons.mpr ⟨(in_t6 _ (mm_at 52 rfl)), List.forall_mem_cons.mpr ⟨(in_t6 _ (mm_at 53 rfl)), List.forall_mem_cons.mpr ⟨(in_t6 _ (mm_at 54 rfl)), List.forall_mem_cons.mpr ⟨(in_t6 _ (mm_at 59 rfl)), List.forall_mem_cons.mpr ⟨(in_t6 _ (mm_at 55 rfl)), List.forall_mem_cons.mpr ⟨(in_t6 _ (mm_at 57 rfl)), List.forall_mem_cons.mpr ⟨(in_sel _ (mm_at 32 rfl)), List.forall_mem_cons.mpr ⟨(in_t6 _ (mm_at 58 rfl)), List.forall_mem_cons.mpr ⟨(in_t2 _ (mm_at 232 rfl)), List.forall_mem_cons.mpr ⟨(in_t2 _ (mm_at 233 rfl)), List.forall_mem_cons.mpr ⟨(in_t2 _ (mm_at 234 rfl)), List.forall_mem_cons.mpr ⟨(in_t2 _ (mm_at 235 rfl)), fun _ h => absurd h List.not_mem_nil⟩⟩⟩⟩⟩⟩⟩⟩⟩⟩⟩⟩⟩⟩⟩⟩⟩⟩⟩⟩⟩⟩⟩⟩
set_option maxRecDepth 20000 in
theorem tb_r15 : ∀ w ∈ wsL_law_r15, w ∈ lw_tbl := List.forall_mem_cons.mpr ⟨(in_t2 _ (mm_at 74 rfl)), List.forall_mem_cons.mpr ⟨(in_t6 _ (mm_at 60 rfl)), List.forall_mem_cons.mpr ⟨(in_t6 _ (mm_at 61 rfl)), List.forall_mem_cons.mpr ⟨(in_t6 _ (mm_at 62 rfl)), List.forall_mem_cons.mpr ⟨(in_t6 _ (mm_at 63 rfl)), List.forall_mem_cons.mpr ⟨(in_t2 _ (mm_at 236 rfl)), List.forall_mem_cons.mpr ⟨(in_t2 _ (mm_at 237 rfl)), List.forall_mem_cons.mpr ⟨(in_t2 _ (mm_at 238 rfl)), List.forall_mem_cons.mpr ⟨(in_t2 _ (mm_at 239 rfl)), List.forall_mem_cons.mpr ⟨(in_t2 _ (mm_at 80 rfl)), List.forall_mem_cons.mpr ⟨(in_t6 _ (mm_at 64 rfl)), List.forall_mem_cons.mpr ⟨(in_t6 _ (mm_at 65 rfl)), List.forall_mem_cons.mpr ⟨(in_t6 _ (mm_at 66 rfl)), List.forall_mem_cons.mpr ⟨(in_t6 _ (mm_at 67 rfl)), List.forall_mem_cons.mpr ⟨(in_t3 _ (mm_at 0 rfl)), List.forall_mem_cons.mpr ⟨(in_t3 _ (mm_at 1 rfl)), List.forall_mem_cons.mpr ⟨(in_t3 _ (mm_at 2 rfl)), List.forall_mem_cons.mpr ⟨(in_t3 _ (mm_at 3 rfl)), List.forall_mem_cons.mpr ⟨(in_t2 _ (mm_at 91 rfl)), List.forall_mem_cons.mpr ⟨(in_t6 _ (mm_at 68 rfl)), List.forall_mem_cons.mpr ⟨(in_t6 _ (mm_at 69 rfl)), List.forall_mem_cons.mpr ⟨(in_t6 _ (mm_at 70 rfl)), List.forall_mem_cons.mpr ⟨(in_t6 _ (mm_at 71 rfl)), List.forall_mem_cons.mpr ⟨(in_t3 _ (mm_at 4 rfl)), fun _ h => absurd h List.not_mem_nil⟩⟩⟩⟩⟩⟩⟩⟩⟩⟩⟩⟩⟩⟩⟩⟩⟩⟩⟩⟩⟩⟩⟩⟩
set_option maxRecDepth 20000 in
theorem tb_r16 : ∀ w ∈ wsL_law_r16, w ∈ lw_tbl := List.forall_mem_cons.mpr ⟨(in_t3 _ (mm_at 5 rfl)), List.forall_mem_cons.mpr ⟨(in_t3 _ (mm_at 6 rfl)), List.forall_mem_cons.mpr ⟨(in_t3 _ (mm_at 7 rfl)), List.forall_mem_cons.mpr ⟨(in_t2 _ (mm_at 96 rfl)), List.forall_mem_cons.mpr ⟨(in_t1 _ (mm_at 67 rfl)), List.forall_mem_cons.mpr ⟨(in_t2 _ (mm_at 98 rfl)), List.forall_mem_cons.mpr ⟨(in_t3 _ (mm_at 8 rfl)), List.forall_mem_cons.mpr ⟨(in_t3 _ (mm_at 9 rfl)), List.forall_mem_cons.mpr ⟨(in_t3 _ (mm_at 10 rfl)), List.forall_mem_cons.mpr ⟨(in_t3 _ (mm_at 11 rfl)), List.forall_mem_cons.mpr ⟨(in_t6 _ (mm_at 72 rfl)), List.forall_mem_cons.mpr ⟨(in_t6 _ (mm_at 73 rfl)), List.forall_mem_cons.mpr ⟨(in_t6 _ (mm_at 74 rfl)), List.forall_mem_cons.mpr ⟨(in_t6 _ (mm_at 75 rfl)), List.forall_mem_cons.mpr ⟨(in_t5 _ (mm_at 32 rfl)), List.forall_mem_cons.mpr ⟨(in_t5 _ (mm_at 33 rfl)), List.forall_mem_cons.mpr ⟨(in_t3 _ (mm_at 12 rfl)), List.forall_mem_cons.mpr ⟨(in_t3 _ (mm_at 13 rfl)), List.forall_mem_cons.mpr ⟨(in_t3 _ (mm_at 14 rfl)), List.forall_mem_cons.mpr ⟨(in_t3 _ (mm_at 15 rfl)), List.forall_mem_cons.mpr ⟨(in_t6 _ (mm_at 76 rfl)), List.forall_mem_cons.mpr ⟨(in_t6 _ (mm_at 77 rfl)), List.forall_mem_cons.mpr ⟨(in_t6 _ (mm_at 78 rfl)), List.forall_mem_cons.mpr ⟨(in_t6 _ (mm_at 79 rfl)), fun _ h => absurd h List.not_mem_nil⟩⟩⟩⟩⟩⟩⟩⟩⟩⟩⟩⟩⟩⟩⟩⟩⟩⟩⟩⟩⟩⟩⟩⟩
set_option maxRecDepth 20000 in
theorem tb_r17 : ∀ w ∈ wsL_law_r17, w ∈ lw_tbl := List.forall_mem_cons.mpr ⟨(in_t6 _ (mm_at 84 rfl)), List.forall_mem_cons.mpr ⟨(in_t6 _ (mm_at 80 rfl)), List.forall_mem_cons.mpr ⟨(in_t6 _ (mm_at 82 rfl)), List.forall_mem_cons.mpr ⟨(in_sel _ (mm_at 33 rfl)), List.forall_mem_cons.mpr ⟨(in_t6 _ (mm_at 83 rfl)), List.forall_mem_cons.mpr ⟨(in_t3 _ (mm_at 16 rfl)), List.forall_mem_cons.mpr ⟨(in_t3 _ (mm_at 17 rfl)), List.forall_mem_cons.mpr ⟨(in_t3 _ (mm_at 18 rfl)), List.forall_mem_cons.mpr ⟨(in_t3 _ (mm_at 19 rfl)), List.forall_mem_cons.mpr ⟨(in_t3 _ (mm_at 20 rfl)), List.forall_mem_cons.mpr ⟨(in_t3 _ (mm_at 22 rfl)), List.forall_mem_cons.mpr ⟨(in_sel _ (mm_at 0 rfl)), List.forall_mem_cons.mpr ⟨(in_t3 _ (mm_at 23 rfl)), List.forall_mem_cons.mpr ⟨(in_t3 _ (mm_at 24 rfl)), List.forall_mem_cons.mpr ⟨(in_t3 _ (mm_at 25 rfl)), List.forall_mem_cons.mpr ⟨(in_t3 _ (mm_at 26 rfl)), List.forall_mem_cons.mpr ⟨(in_t3 _ (mm_at 27 rfl)), List.forall_mem_cons.mpr ⟨(in_t2 _ (mm_at 97 rfl)), List.forall_mem_cons.mpr ⟨(in_t1 _ (mm_at 61 rfl)), List.forall_mem_cons.mpr ⟨(in_t1 _ (mm_at 57 rfl)), List.forall_mem_cons.mpr ⟨(in_t1 _ (mm_at 53 rfl)), List.forall_mem_cons.mpr ⟨(in_t1 _ (mm_at 55 rfl)), List.forall_mem_cons.mpr ⟨(in_t3 _ (mm_at 28 rfl)), List.forall_mem_cons.mpr ⟨(in_t3 _ (mm_at 30 rfl)), fun _ h => absurd h List.not_mem_nil⟩⟩⟩⟩⟩⟩⟩⟩⟩⟩⟩⟩⟩⟩⟩⟩⟩⟩⟩⟩⟩⟩⟩⟩
set_option maxRecDepth 20000 in
theorem tb_r18 : ∀ w ∈ wsL_law_r18, w ∈ lw_tbl := List.forall_mem_cons.mpr ⟨(in_sel _ (mm_at 1 rfl)), List.forall_mem_cons.mpr ⟨(in_t3 _ (mm_at 31 rfl)), List.forall_mem_cons.mpr ⟨(in_t3 _ (mm_at 32 rfl)), List.forall_mem_cons.mpr ⟨(in_t3 _ (mm_at 34 rfl)), List.forall_mem_cons.mpr ⟨(in_t3 _ (mm_at 33 rfl)), List.forall_mem_cons.mpr ⟨(in_t1 _ (mm_at 13 rfl)), List.forall_mem_cons.mpr ⟨(in_t3 _ (mm_at 35 rfl)), List.forall_mem_cons.mpr ⟨(in_t3 _ (mm_at 37 rfl)), List.forall_mem_cons.mpr ⟨(in_sel _ (mm_at 2 rfl)), List.forall_mem_cons.mpr ⟨(in_t3 _ (mm_at 38 rfl)), List.forall_mem_cons.mpr ⟨(in_t1 _ (mm_at 38 rfl)), List.forall_mem_cons.mpr ⟨(in_t1 _ (mm_at 44 rfl)), List.forall_mem_cons.mpr ⟨(in_t3 _ (mm_at 39 rfl)), List.forall_mem_cons.mpr ⟨(in_t3 _ (mm_at 40 rfl)), List.forall_mem_cons.mpr ⟨(in_t3 _ (mm_at 41 rfl)), List.forall_mem_cons.mpr ⟨(in_t3 _ (mm_at 43 rfl)), List.forall_mem_cons.mpr ⟨(in_sel _ (mm_at 3 rfl)), List.forall_mem_cons.mpr ⟨(in_t3 _ (mm_at 44 rfl)), List.forall_mem_cons.mpr ⟨(in_t3 _ (mm_at 45 rfl)), List.forall_mem_cons.mpr ⟨(in_t3 _ (mm_at 46 rfl)), List.forall_mem_cons.mpr ⟨(in_t1 _ (mm_at 14 rfl)), List.forall_mem_cons.mpr ⟨(in_t3 _ (mm_at 47 rfl)), List.forall_mem_cons.mpr ⟨(in_t1 _ (mm_at 156 rfl)), List.forall_mem_cons.mpr ⟨(in_t1 _ (mm_at 65 rfl)), fun _ h => absurd h List.not_mem_nil⟩⟩⟩⟩⟩⟩⟩⟩⟩⟩⟩⟩⟩⟩⟩⟩⟩⟩⟩⟩⟩⟩⟩⟩
set_option maxRecDepth 20000 in
theorem tb_r19 : ∀ w ∈ wsL_law_r19, w ∈ lw_tbl := List.forall_mem_cons.mpr ⟨(in_t3 _ (mm_at 48 rfl)), List.forall_mem_cons.mpr ⟨(in_t3 _ (mm_at 49 rfl)), List.forall_mem_cons.mpr ⟨(in_t3 _ (mm_at 50 rfl)), List.forall_mem_cons.mpr ⟨(in_t3 _ (mm_at 51 rfl)), List.forall_mem_cons.mpr ⟨(in_t1 _ (mm_at 154 rfl)), List.forall_mem_cons.mpr ⟨(in_t3 _ (mm_at 52 rfl)), List.forall_mem_cons.mpr ⟨(in_t3 _ (mm_at 53 rfl)), List.forall_mem_cons.mpr ⟨(in_t3 _ (mm_at 54 rfl)), List.forall_mem_cons.mpr ⟨(in_t3 _ (mm_at 55 rfl)), List.forall_mem_cons.mpr ⟨(in_t3 _ (mm_at 56 rfl)), List.forall_mem_cons.mpr ⟨(in_t3 _ (mm_at 58 rfl)), List.forall_mem_cons.mpr ⟨(in_sel _ (mm_at 4 rfl)), List.forall_mem_cons.mpr ⟨(in_t3 _ (mm_at 59 rfl)), List.forall_mem_cons.mpr ⟨(in_t3 _ (mm_at 60 rfl)), List.forall_mem_cons.mpr ⟨(in_t3 _ (mm_at 61 rfl)), List.forall_mem_cons.mpr ⟨(in_t3 _ (mm_at 63 rfl)), List.forall_mem_cons.mpr ⟨(in_sel _ (mm_at 5 rfl)), List.forall_mem_cons.mpr ⟨(in_t3 _ (mm_at 64 rfl)), List.forall_mem_cons.mpr ⟨(in_t3 _ (mm_at 65 rfl)), List.forall_mem_cons.mpr ⟨(in_t3 _ (mm_at 67 rfl)), List.forall_mem_cons.mpr ⟨(in_sel _ (mm_at 6 rfl)), List.forall_mem_cons.mpr ⟨(in_t3 _ (mm_at 68 rfl)), List.forall_mem_cons.mpr ⟨(in_t3 _ (mm_at 69 rfl)), List.forall_mem_cons.mpr ⟨(in_t3 _ (mm_at 71 rfl)), fun _ h => absurd h List.not_mem_nil⟩⟩⟩⟩⟩⟩⟩⟩⟩⟩⟩⟩⟩⟩⟩⟩⟩⟩⟩⟩⟩⟩⟩⟩
set_option maxRecDepth 20000 in
theorem tb_r20 : ∀ w ∈ wsL_law_r20, w ∈ lw_tbl := List.forall_mem_cons.mpr ⟨(in_sel _ (mm_at 7 rfl)), List.forall_mem_cons.mpr ⟨(in_t3 _ (mm_at 72 rfl)), List.forall_mem_cons.mpr ⟨(in_t3 _ (mm_at 73 rfl)), List.forall_mem_cons.mpr ⟨(in_t3 _ (mm_at 75 rfl)), List.forall_mem_cons.mpr ⟨(in_sel _ (mm_at 8 rfl)), List.forall_mem_cons.mpr ⟨(in_t3 _ (mm_at 76 rfl)), List.forall_mem_cons.mpr ⟨(in_t1 _ (mm_at 153 rfl)), List.forall_mem_cons.mpr ⟨(in_t3 _ (mm_at 77 rfl)), List.forall_mem_cons.mpr ⟨(in_t3 _ (mm_at 79 rfl)), List.forall_mem_cons.mpr ⟨(in_sel _ (mm_at 9 rfl)), List.forall_mem_cons.mpr ⟨(in_t3 _ (mm_at 80 rfl)), List.forall_mem_cons.mpr ⟨(in_t1 _ (mm_at 42 rfl)), List.forall_mem_cons.mpr ⟨(in_t3 _ (mm_at 81 rfl)), List.forall_mem_cons.mpr ⟨(in_t3 _ (mm_at 82 rfl)), List.forall_mem_cons.mpr ⟨(in_t3 _ (mm_at 83 rfl)), List.forall_mem_cons.mpr ⟨(in_t3 _ (mm_at 84 rfl)), List.forall_mem_cons.mpr ⟨(in_t3 _ (mm_at 85 rfl)), List.forall_mem_cons.mpr ⟨(in_t3 _ (mm_at 86 rfl)), List.forall_mem_cons.mpr ⟨(in_t3 _ (mm_at 87 rfl)), List.forall_mem_cons.mpr ⟨(in_t3 _ (mm_at 88 rfl)), List.forall_mem_cons.mpr ⟨(in_t3 _ (mm_at 89 rfl)), List.forall_mem_cons.mpr ⟨(in_t3 _ (mm_at 95 rfl)), List.forall_mem_cons.mpr ⟨(in_t3 _ (mm_at 96 rfl)), List.forall_mem_cons.mpr ⟨(in_t3 _ (mm_at 97 rfl)), fun _ h => absurd h List.not_mem_nil⟩⟩⟩⟩⟩⟩⟩⟩⟩⟩⟩⟩⟩⟩⟩⟩⟩⟩⟩⟩⟩⟩⟩⟩
set_option maxRecDepth 20000 in
theorem tb_r21 : ∀ w ∈ wsL_law_r21, w ∈ lw_tbl := List.forall_mem_cons.mpr ⟨(in_t3 _ (mm_at 90 rfl)), List.forall_mem_cons.mpr ⟨(in_t3 _ (mm_at 91 rfl)), List.forall_mem_cons.mpr ⟨(in_t3 _ (mm_at 93 rfl)), List.forall_mem_cons.mpr ⟨(in_sel _ (mm_at 10 rfl)), List.forall_mem_cons.mpr ⟨(in_t3 _ (mm_at 94 rfl)), List.forall_mem_cons.mpr ⟨(in_t3 _ (mm_at 98 rfl)), List.forall_mem_cons.mpr ⟨(in_t3 _ (mm_at 99 rfl)), List.forall_mem_cons.mpr ⟨(in_t3 _ (mm_at 100 rfl)), List.forall_mem_cons.mpr ⟨(in_t3 _ (mm_at 101 rfl)), List.forall_mem_cons.mpr ⟨(in_t3 _ (mm_at 102 rfl)), List.forall_mem_cons.mpr ⟨(in_t3 _ (mm_at 103 rfl)), List.forall_mem_cons.mpr ⟨(in_t3 _ (mm_at 104 rfl)), List.forall_mem_cons.mpr ⟨(in_t3 _ (mm_at 105 rfl)), List.forall_mem_cons.mpr ⟨(in_t3 _ (mm_at 106 rfl)), List.forall_mem_cons.mpr ⟨(in_t3 _ (mm_at 107 rfl)), List.forall_mem_cons.mpr ⟨(in_t3 _ (mm_at 108 rfl)), List.forall_mem_cons.mpr ⟨(in_t3 _ (mm_at 109 rfl)), List.forall_mem_cons.mpr ⟨(in_t3 _ (mm_at 110 rfl)), List.forall_mem_cons.mpr ⟨(in_t3 _ (mm_at 111 rfl)), List.forall_mem_cons.mpr ⟨(in_t3 _ (mm_at 112 rfl)), List.forall_mem_cons.mpr ⟨(in_t3 _ (mm_at 113 rfl)), List.forall_mem_cons.mpr ⟨(in_t3 _ (mm_at 115 rfl)), List.forall_mem_cons.mpr ⟨(in_sel _ (mm_at 11 rfl)), List.forall_mem_cons.mpr ⟨(in_t3 _ (mm_at 116 rfl)), fun _ h => absurd h List.not_mem_nil⟩⟩⟩⟩⟩⟩⟩⟩⟩⟩⟩⟩⟩⟩⟩⟩⟩⟩⟩⟩⟩⟩⟩⟩
set_option maxRecDepth 20000 in
theorem tb_r22 : ∀ w ∈ wsL_law_r22, w ∈ lw_tbl := List.forall_mem_cons.mpr ⟨(in_t1 _ (mm_at 48 rfl)), List.forall_mem_cons.mpr ⟨(in_t3 _ (mm_at 117 rfl)), List.forall_mem_cons.mpr ⟨(in_t1 _ (mm_at 51 rfl)), List.forall_mem_cons.mpr ⟨(in_t3 _ (mm_at 118 rfl)), List.forall_mem_cons.mpr ⟨(in_t1 _ (mm_at 36 rfl)), List.forall_mem_cons.mpr ⟨(in_t2 _ (mm_at 95 rfl)), List.forall_mem_cons.mpr ⟨(in_t3 _ (mm_at 119 rfl)), List.forall_mem_cons.mpr ⟨(in_t3 _ (mm_at 120 rfl)), List.forall_mem_cons.mpr ⟨(in_t3 _ (mm_at 121 rfl)), List.forall_mem_cons.mpr ⟨(in_t3 _ (mm_at 122 rfl)), List.forall_mem_cons.mpr ⟨(in_t2 _ (mm_at 92 rfl)), List.forall_mem_cons.mpr ⟨(in_t3 _ (mm_at 123 rfl)), List.forall_mem_cons.mpr ⟨(in_t2 _ (mm_at 85 rfl)), List.forall_mem_cons.mpr ⟨(in_t2 _ (mm_at 88 rfl)), List.forall_mem_cons.mpr ⟨(in_t3 _ (mm_at 124 rfl)), List.forall_mem_cons.mpr ⟨(in_t6 _ (mm_at 85 rfl)), List.forall_mem_cons.mpr ⟨(in_t6 _ (mm_at 86 rfl)), List.forall_mem_cons.mpr ⟨(in_t6 _ (mm_at 87 rfl)), List.forall_mem_cons.mpr ⟨(in_t6 _ (mm_at 88 rfl)), List.forall_mem_cons.mpr ⟨(in_t6 _ (mm_at 89 rfl)), List.forall_mem_cons.mpr ⟨(in_t6 _ (mm_at 91 rfl)), List.forall_mem_cons.mpr ⟨(in_sel _ (mm_at 34 rfl)), List.forall_mem_cons.mpr ⟨(in_t6 _ (mm_at 92 rfl)), List.forall_mem_cons.mpr ⟨(in_t6 _ (mm_at 93 rfl)), fun _ h => absurd h List.not_mem_nil⟩⟩⟩⟩⟩⟩⟩⟩⟩⟩⟩⟩⟩⟩⟩⟩⟩⟩⟩⟩⟩⟩⟩⟩
set_option maxRecDepth 20000 in
theorem tb_r23 : ∀ w ∈ wsL_law_r23, w ∈ lw_tbl := List.forall_mem_cons.mpr ⟨(in_t6 _ (mm_at 95 rfl)), List.forall_mem_cons.mpr ⟨(in_sel _ (mm_at 35 rfl)), List.forall_mem_cons.mpr ⟨(in_t6 _ (mm_at 96 rfl)), List.forall_mem_cons.mpr ⟨(in_t6 _ (mm_at 97 rfl)), List.forall_mem_cons.mpr ⟨(in_t6 _ (mm_at 99 rfl)), List.forall_mem_cons.mpr ⟨(in_sel _ (mm_at 36 rfl)), List.forall_mem_cons.mpr ⟨(in_t6 _ (mm_at 100 rfl)), List.forall_mem_cons.mpr ⟨(in_t6 _ (mm_at 101 rfl)), List.forall_mem_cons.mpr ⟨(in_t6 _ (mm_at 103 rfl)), List.forall_mem_cons.mpr ⟨(in_sel _ (mm_at 37 rfl)), List.forall_mem_cons.mpr ⟨(in_t6 _ (mm_at 104 rfl)), List.forall_mem_cons.mpr ⟨(in_t6 _ (mm_at 105 rfl)), List.forall_mem_cons.mpr ⟨(in_t6 _ (mm_at 107 rfl)), List.forall_mem_cons.mpr ⟨(in_sel _ (mm_at 38 rfl)), List.forall_mem_cons.mpr ⟨(in_t6 _ (mm_at 108 rfl)), List.forall_mem_cons.mpr ⟨(in_t6 _ (mm_at 109 rfl)), List.forall_mem_cons.mpr ⟨(in_t6 _ (mm_at 111 rfl)), List.forall_mem_cons.mpr ⟨(in_sel _ (mm_at 39 rfl)), List.forall_mem_cons.mpr ⟨(in_t6 _ (mm_at 112 rfl)), List.forall_mem_cons.mpr ⟨(in_t6 _ (mm_at 113 rfl)), List.forall_mem_cons.mpr ⟨(in_t6 _ (mm_at 115 rfl)), List.forall_mem_cons.mpr ⟨(in_sel _ (mm_at 40 rfl)), List.forall_mem_cons.mpr ⟨(in_t6 _ (mm_at 116 rfl)), List.forall_mem_cons.mpr ⟨(in_t6 _ (mm_at 117 rfl)), fun _ h => absurd h List.not_mem_nil⟩⟩⟩⟩⟩⟩⟩⟩⟩⟩⟩⟩⟩⟩⟩⟩⟩⟩⟩⟩⟩⟩⟩⟩
set_option maxRecDepth 20000 in
theorem tb_r24 : ∀ w ∈ wsL_law_r24, w ∈ lw_tbl := List.forall_mem_cons.mpr ⟨(in_t6 _ (mm_at 118 rfl)), List.forall_mem_cons.mpr ⟨(in_t6 _ (mm_at 119 rfl)), List.forall_mem_cons.mpr ⟨(in_t6 _ (mm_at 120 rfl)), List.forall_mem_cons.mpr ⟨(in_t6 _ (mm_at 121 rfl)), List.forall_mem_cons.mpr ⟨(in_t6 _ (mm_at 122 rfl)), List.forall_mem_cons.mpr ⟨(in_t6 _ (mm_at 123 rfl)), List.forall_mem_cons.mpr ⟨(in_t6 _ (mm_at 124 rfl)), List.forall_mem_cons.mpr ⟨(in_t3 _ (mm_at 125 rfl)), List.forall_mem_cons.mpr ⟨(in_t3 _ (mm_at 126 rfl)), List.forall_mem_cons.mpr ⟨(in_t3 _ (mm_at 127 rfl)), List.forall_mem_cons.mpr ⟨(in_t3 _ (mm_at 128 rfl)), List.forall_mem_cons.mpr ⟨(in_t6 _ (mm_at 125 rfl)), List.forall_mem_cons.mpr ⟨(in_t6 _ (mm_at 126 rfl)), List.forall_mem_cons.mpr ⟨(in_t6 _ (mm_at 127 rfl)), List.forall_mem_cons.mpr ⟨(in_t6 _ (mm_at 128 rfl)), List.forall_mem_cons.mpr ⟨(in_t6 _ (mm_at 129 rfl)), List.forall_mem_cons.mpr ⟨(in_t6 _ (mm_at 130 rfl)), List.forall_mem_cons.mpr ⟨(in_t6 _ (mm_at 132 rfl)), List.forall_mem_cons.mpr ⟨(in_sel _ (mm_at 41 rfl)), List.forall_mem_cons.mpr ⟨(in_t6 _ (mm_at 133 rfl)), List.forall_mem_cons.mpr ⟨(in_t3 _ (mm_at 129 rfl)), List.forall_mem_cons.mpr ⟨(in_t3 _ (mm_at 130 rfl)), List.forall_mem_cons.mpr ⟨(in_t3 _ (mm_at 131 rfl)), List.forall_mem_cons.mpr ⟨(in_t3 _ (mm_at 132 rfl)), fun _ h => absurd h List.not_mem_nil⟩⟩⟩⟩⟩⟩⟩⟩⟩⟩⟩⟩⟩⟩⟩⟩⟩⟩⟩⟩⟩⟩⟩⟩
set_option maxRecDepth 20000 in
theorem tb_r25 : ∀ w ∈ wsL_law_r25, w ∈ lw_tbl := List.forall_mem_cons.mpr ⟨(in_t1 _ (mm_at 127 rfl)), List.forall_mem_cons.mpr ⟨(in_t3 _ (mm_at 133 rfl)), List.forall_mem_cons.mpr ⟨(in_t3 _ (mm_at 134 rfl)), List.forall_mem_cons.mpr ⟨(in_t3 _ (mm_at 135 rfl)), List.forall_mem_cons.mpr ⟨(in_t3 _ (mm_at 136 rfl)), List.forall_mem_cons.mpr ⟨(in_t1 _ (mm_at 126 rfl)), List.forall_mem_cons.mpr ⟨(in_t6 _ (mm_at 134 rfl)), List.forall_mem_cons.mpr ⟨(in_t6 _ (mm_at 135 rfl)), List.forall_mem_cons.mpr ⟨(in_t6 _ (mm_at 136 rfl)), List.forall_mem_cons.mpr ⟨(in_t6 _ (mm_at 137 rfl)), List.forall_mem_cons.mpr ⟨(in_t6 _ (mm_at 138 rfl)), List.forall_mem_cons.mpr ⟨(in_t5 _ (mm_at 51 rfl)), List.forall_mem_cons.mpr ⟨(in_t6 _ (mm_at 139 rfl)), List.forall_mem_cons.mpr ⟨(in_t3 _ (mm_at 137 rfl)), List.forall_mem_cons.mpr ⟨(in_t3 _ (mm_at 138 rfl)), List.forall_mem_cons.mpr ⟨(in_t3 _ (mm_at 139 rfl)), List.forall_mem_cons.mpr ⟨(in_t3 _ (mm_at 140 rfl)), List.forall_mem_cons.mpr ⟨(in_t1 _ (mm_at 106 rfl)), List.forall_mem_cons.mpr ⟨(in_t1 _ (mm_at 125 rfl)), List.forall_mem_cons.mpr ⟨(in_t1 _ (mm_at 131 rfl)), List.forall_mem_cons.mpr ⟨(in_t1 _ (mm_at 129 rfl)), List.forall_mem_cons.mpr ⟨(in_t3 _ (mm_at 141 rfl)), List.forall_mem_cons.mpr ⟨(in_t3 _ (mm_at 142 rfl)), List.forall_mem_cons.mpr ⟨(in_t3 _ (mm_at 143 rfl)), fun _ h => absurd h List.not_mem_nil⟩⟩⟩⟩⟩⟩⟩⟩⟩⟩⟩⟩⟩⟩⟩⟩⟩⟩⟩⟩⟩⟩⟩⟩
set_option maxRecDepth 20000 in
theorem tb_r26 : ∀ w ∈ wsL_law_r26, w ∈ lw_tbl := List.forall_mem_cons.mpr ⟨(in_t3 _ (mm_at 144 rfl)), List.forall_mem_cons.mpr ⟨(in_t1 _ (mm_at 128 rfl)), List.forall_mem_cons.mpr ⟨(in_t1 _ (mm_at 130 rfl)), List.forall_mem_cons.mpr ⟨(in_t3 _ (mm_at 145 rfl)), List.forall_mem_cons.mpr ⟨(in_t3 _ (mm_at 147 rfl)), List.forall_mem_cons.mpr ⟨(in_sel _ (mm_at 12 rfl)), List.forall_mem_cons.mpr ⟨(in_t3 _ (mm_at 148 rfl)), List.forall_mem_cons.mpr ⟨(in_t3 _ (mm_at 149 rfl)), List.forall_mem_cons.mpr ⟨(in_t3 _ (mm_at 151 rfl)), List.forall_mem_cons.mpr ⟨(in_sel _ (mm_at 13 rfl)), List.forall_mem_cons.mpr ⟨(in_t3 _ (mm_at 169 rfl)), List.forall_mem_cons.mpr ⟨(in_t3 _ (mm_at 171 rfl)), List.forall_mem_cons.mpr ⟨(in_sel _ (mm_at 18 rfl)), List.forall_mem_cons.mpr ⟨(in_t3 _ (mm_at 172 rfl)), List.forall_mem_cons.mpr ⟨(in_t3 _ (mm_at 165 rfl)), List.forall_mem_cons.mpr ⟨(in_t3 _ (mm_at 167 rfl)), List.forall_mem_cons.mpr ⟨(in_sel _ (mm_at 17 rfl)), List.forall_mem_cons.mpr ⟨(in_t3 _ (mm_at 168 rfl)), List.forall_mem_cons.mpr ⟨(in_t3 _ (mm_at 156 rfl)), List.forall_mem_cons.mpr ⟨(in_t3 _ (mm_at 157 rfl)), List.forall_mem_cons.mpr ⟨(in_t3 _ (mm_at 159 rfl)), List.forall_mem_cons.mpr ⟨(in_sel _ (mm_at 15 rfl)), List.forall_mem_cons.mpr ⟨(in_t3 _ (mm_at 160 rfl)), List.forall_mem_cons.mpr ⟨(in_t3 _ (mm_at 161 rfl)), fun _ h => absurd h List.not_mem_nil⟩⟩⟩⟩⟩⟩⟩⟩⟩⟩⟩⟩⟩⟩⟩⟩⟩⟩⟩⟩⟩⟩⟩⟩
set_option maxRecDepth 20000 in
theorem tb_r27 : ∀ w ∈ wsL_law_r27, w ∈ lw_tbl := List.forall_mem_cons.mpr ⟨(in_t3 _ (mm_at 163 rfl)), List.forall_mem_cons.mpr ⟨(in_sel _ (mm_at 16 rfl)), List.forall_mem_cons.mpr ⟨(in_t3 _ (mm_at 164 rfl)), List.forall_mem_cons.mpr ⟨(in_t3 _ (mm_at 173 rfl)), List.forall_mem_cons.mpr ⟨(in_t3 _ (mm_at 175 rfl)), List.forall_mem_cons.mpr ⟨(in_sel _ (mm_at 19 rfl)), List.forall_mem_cons.mpr ⟨(in_t3 _ (mm_at 176 rfl)), List.forall_mem_cons.mpr ⟨(in_t3 _ (mm_at 177 rfl)), List.forall_mem_cons.mpr ⟨(in_t3 _ (mm_at 179 rfl)), List.forall_mem_cons.mpr ⟨(in_sel _ (mm_at 20 rfl)), List.forall_mem_cons.mpr ⟨(in_t3 _ (mm_at 180 rfl)), List.forall_mem_cons.mpr ⟨(in_t3 _ (mm_at 181 rfl)), List.forall_mem_cons.mpr ⟨(in_t3 _ (mm_at 183 rfl)), List.forall_mem_cons.mpr ⟨(in_sel _ (mm_at 21 rfl)), List.forall_mem_cons.mpr ⟨(in_t3 _ (mm_at 184 rfl)), List.forall_mem_cons.mpr ⟨(in_t3 _ (mm_at 234 rfl)), List.forall_mem_cons.mpr ⟨(in_t3 _ (mm_at 186 rfl)), List.forall_mem_cons.mpr ⟨(in_t3 _ (mm_at 187 rfl)), List.forall_mem_cons.mpr ⟨(in_t3 _ (mm_at 188 rfl)), List.forall_mem_cons.mpr ⟨(in_t1 _ (mm_at 15 rfl)), List.forall_mem_cons.mpr ⟨(in_t3 _ (mm_at 189 rfl)), List.forall_mem_cons.mpr ⟨(in_t7 _ (mm_at 106 rfl)), List.forall_mem_cons.mpr ⟨(in_t3 _ (mm_at 190 rfl)), List.forall_mem_cons.mpr ⟨(in_t3 _ (mm_at 191 rfl)), fun _ h => absurd h List.not_mem_nil⟩⟩⟩⟩⟩⟩⟩⟩⟩⟩⟩⟩⟩⟩⟩⟩⟩⟩⟩⟩⟩⟩⟩⟩
set_option maxRecDepth 20000 in
theorem tb_r28 : ∀ w ∈ wsL_law_r28, w ∈ lw_tbl := List.forall_mem_cons.mpr ⟨(in_t3 _ (mm_at 192 rfl)), List.forall_mem_cons.mpr ⟨(in_t3 _ (mm_at 193 rfl)), List.forall_mem_cons.mpr ⟨(in_t3 _ (mm_at 194 rfl)), List.forall_mem_cons.mpr ⟨(in_t7 _ (mm_at 107 rfl)), List.forall_mem_cons.mpr ⟨(in_t3 _ (mm_at 196 rfl)), List.forall_mem_cons.mpr ⟨(in_t3 _ (mm_at 197 rfl)), List.forall_mem_cons.mpr ⟨(in_t3 _ (mm_at 198 rfl)), List.forall_mem_cons.mpr ⟨(in_t3 _ (mm_at 199 rfl)), List.forall_mem_cons.mpr ⟨(in_t3 _ (mm_at 200 rfl)), List.forall_mem_cons.mpr ⟨(in_t3 _ (mm_at 201 rfl)), List.forall_mem_cons.mpr ⟨(in_t3 _ (mm_at 202 rfl)), List.forall_mem_cons.mpr ⟨(in_t3 _ (mm_at 203 rfl)), List.forall_mem_cons.mpr ⟨(in_t3 _ (mm_at 204 rfl)), List.forall_mem_cons.mpr ⟨(in_t3 _ (mm_at 205 rfl)), List.forall_mem_cons.mpr ⟨(in_t1 _ (mm_at 16 rfl)), List.forall_mem_cons.mpr ⟨(in_t3 _ (mm_at 206 rfl)), List.forall_mem_cons.mpr ⟨(in_t3 _ (mm_at 207 rfl)), List.forall_mem_cons.mpr ⟨(in_t3 _ (mm_at 208 rfl)), List.forall_mem_cons.mpr ⟨(in_t3 _ (mm_at 209 rfl)), List.forall_mem_cons.mpr ⟨(in_t3 _ (mm_at 210 rfl)), List.forall_mem_cons.mpr ⟨(in_t3 _ (mm_at 212 rfl)), List.forall_mem_cons.mpr ⟨(in_t3 _ (mm_at 213 rfl)), List.forall_mem_cons.mpr ⟨(in_t1 _ (mm_at 17 rfl)), List.forall_mem_cons.mpr ⟨(in_t3 _ (mm_at 214 rfl)), fun _ h => absurd h List.not_mem_nil⟩⟩⟩⟩⟩⟩⟩⟩⟩⟩⟩⟩⟩⟩⟩⟩⟩⟩⟩⟩⟩⟩⟩⟩
set_option maxRecDepth 20000 in
theorem tb_r29 : ∀ w ∈ wsL_law_r29, w ∈ lw_tbl := List.forall_mem_cons.mpr ⟨(in_t3 _ (mm_at 215 rfl)), List.forall_mem_cons.mpr ⟨(in_t3 _ (mm_at 216 rfl)), List.forall_mem_cons.mpr ⟨(in_t1 _ (mm_at 18 rfl)), List.forall_mem_cons.mpr ⟨(in_t3 _ (mm_at 217 rfl)), List.forall_mem_cons.mpr ⟨(in_t3 _ (mm_at 218 rfl)), List.forall_mem_cons.mpr ⟨(in_t3 _ (mm_at 219 rfl)), List.forall_mem_cons.mpr ⟨(in_t3 _ (mm_at 220 rfl)), List.forall_mem_cons.mpr ⟨(in_t3 _ (mm_at 221 rfl)), List.forall_mem_cons.mpr ⟨(in_t3 _ (mm_at 222 rfl)), List.forall_mem_cons.mpr ⟨(in_t3 _ (mm_at 223 rfl)), List.forall_mem_cons.mpr ⟨(in_t3 _ (mm_at 224 rfl)), List.forall_mem_cons.mpr ⟨(in_t3 _ (mm_at 225 rfl)), List.forall_mem_cons.mpr ⟨(in_t3 _ (mm_at 226 rfl)), List.forall_mem_cons.mpr ⟨(in_t3 _ (mm_at 227 rfl)), List.forall_mem_cons.mpr ⟨(in_t3 _ (mm_at 228 rfl)), List.forall_mem_cons.mpr ⟨(in_t3 _ (mm_at 230 rfl)), List.forall_mem_cons.mpr ⟨(in_t3 _ (mm_at 232 rfl)), List.forall_mem_cons.mpr ⟨(in_t3 _ (mm_at 152 rfl)), List.forall_mem_cons.mpr ⟨(in_t3 _ (mm_at 153 rfl)), List.forall_mem_cons.mpr ⟨(in_t3 _ (mm_at 155 rfl)), List.forall_mem_cons.mpr ⟨(in_sel _ (mm_at 14 rfl)), List.forall_mem_cons.mpr ⟨(in_t3 _ (mm_at 235 rfl)), List.forall_mem_cons.mpr ⟨(in_t3 _ (mm_at 236 rfl)), List.forall_mem_cons.mpr ⟨(in_t3 _ (mm_at 237 rfl)), fun _ h => absurd h List.not_mem_nil⟩⟩⟩⟩⟩⟩⟩⟩⟩⟩⟩⟩⟩⟩⟩⟩⟩⟩⟩⟩⟩⟩⟩⟩
set_option maxRecDepth 20000 in
theorem tb_r30 : ∀ w ∈ wsL_law_r30, w ∈ lw_tbl := List.forall_mem_cons.mpr ⟨(in_t3 _ (mm_at 238 rfl)), List.forall_mem_cons.mpr ⟨(in_t3 _ (mm_at 239 rfl)), List.forall_mem_cons.mpr ⟨(in_t6 _ (mm_at 140 rfl)), List.forall_mem_cons.mpr ⟨(in_t6 _ (mm_at 141 rfl)), List.forall_mem_cons.mpr ⟨(in_t6 _ (mm_at 142 rfl)), List.forall_mem_cons.mpr ⟨(in_t6 _ (mm_at 143 rfl)), List.forall_mem_cons.mpr ⟨(in_t5 _ (mm_at 56 rfl)), List.forall_mem_cons.mpr ⟨(in_t6 _ (mm_at 144 rfl)), List.forall_mem_cons.mpr ⟨(in_t6 _ (mm_at 146 rfl)), List.forall_mem_cons.mpr ⟨(in_sel _ (mm_at 42 rfl)), List.forall_mem_cons.mpr ⟨(in_t6 _ (mm_at 147 rfl)), List.forall_mem_cons.mpr ⟨(in_t5 _ (mm_at 54 rfl)), List.forall_mem_cons.mpr ⟨(in_t5 _ (mm_at 55 rfl)), List.forall_mem_cons.mpr ⟨(in_t6 _ (mm_at 148 rfl)), List.forall_mem_cons.mpr ⟨(in_t6 _ (mm_at 150 rfl)), List.forall_mem_cons.mpr ⟨(in_sel _ (mm_at 43 rfl)), List.forall_mem_cons.mpr ⟨(in_t6 _ (mm_at 151 rfl)), List.forall_mem_cons.mpr ⟨(in_t6 _ (mm_at 156 rfl)), List.forall_mem_cons.mpr ⟨(in_t6 _ (mm_at 157 rfl)), List.forall_mem_cons.mpr ⟨(in_t5 _ (mm_at 57 rfl)), List.forall_mem_cons.mpr ⟨(in_t6 _ (mm_at 152 rfl)), List.forall_mem_cons.mpr ⟨(in_t6 _ (mm_at 154 rfl)), List.forall_mem_cons.mpr ⟨(in_sel _ (mm_at 44 rfl)), List.forall_mem_cons.mpr ⟨(in_t6 _ (mm_at 155 rfl)), fun _ h => absurd h List.not_mem_nil⟩⟩⟩⟩⟩⟩⟩⟩⟩⟩⟩⟩⟩⟩⟩⟩⟩⟩⟩⟩⟩⟩⟩⟩
set_option maxRecDepth 20000 in
theorem tb_r31 : ∀ w ∈ wsL_law_r31, w ∈ lw_tbl := List.forall_mem_cons.mpr ⟨(in_t6 _ (mm_at 158 rfl)), List.forall_mem_cons.mpr ⟨(in_t6 _ (mm_at 160 rfl)), List.forall_mem_cons.mpr ⟨(in_sel _ (mm_at 45 rfl)), List.forall_mem_cons.mpr ⟨(in_t6 _ (mm_at 161 rfl)), List.forall_mem_cons.mpr ⟨(in_t6 _ (mm_at 162 rfl)), List.forall_mem_cons.mpr ⟨(in_t6 _ (mm_at 164 rfl)), List.forall_mem_cons.mpr ⟨(in_sel _ (mm_at 46 rfl)), List.forall_mem_cons.mpr ⟨(in_t6 _ (mm_at 165 rfl)), List.forall_mem_cons.mpr ⟨(in_t6 _ (mm_at 166 rfl)), List.forall_mem_cons.mpr ⟨(in_t6 _ (mm_at 168 rfl)), List.forall_mem_cons.mpr ⟨(in_sel _ (mm_at 47 rfl)), List.forall_mem_cons.mpr ⟨(in_t6 _ (mm_at 169 rfl)), List.forall_mem_cons.mpr ⟨(in_t6 _ (mm_at 170 rfl)), List.forall_mem_cons.mpr ⟨(in_t6 _ (mm_at 172 rfl)), List.forall_mem_cons.mpr ⟨(in_sel _ (mm_at 48 rfl)), List.forall_mem_cons.mpr ⟨(in_t6 _ (mm_at 173 rfl)), List.forall_mem_cons.mpr ⟨(in_t6 _ (mm_at 174 rfl)), List.forall_mem_cons.mpr ⟨(in_t6 _ (mm_at 175 rfl)), List.forall_mem_cons.mpr ⟨(in_t6 _ (mm_at 176 rfl)), List.forall_mem_cons.mpr ⟨(in_t6 _ (mm_at 177 rfl)), List.forall_mem_cons.mpr ⟨(in_t6 _ (mm_at 179 rfl)), List.forall_mem_cons.mpr ⟨(in_sel _ (mm_at 49 rfl)), List.forall_mem_cons.mpr ⟨(in_t6 _ (mm_at 180 rfl)), List.forall_mem_cons.mpr ⟨(in_t4 _ (mm_at 1 rfl)), fun _ h => absurd h List.not_mem_nil⟩⟩⟩⟩⟩⟩⟩⟩⟩⟩⟩⟩⟩⟩⟩⟩⟩⟩⟩⟩⟩⟩⟩⟩
set_option maxRecDepth 20000 in
theorem tb_r32 : ∀ w ∈ wsL_law_r32, w ∈ lw_tbl := List.forall_mem_cons.mpr ⟨(in_t4 _ (mm_at 2 rfl)), List.forall_mem_cons.mpr ⟨(in_t4 _ (mm_at 3 rfl)), List.forall_mem_cons.mpr ⟨(in_t4 _ (mm_at 4 rfl)), List.forall_mem_cons.mpr ⟨(in_t4 _ (mm_at 5 rfl)), List.forall_mem_cons.mpr ⟨(in_t6 _ (mm_at 181 rfl)), List.forall_mem_cons.mpr ⟨(in_t6 _ (mm_at 182 rfl)), List.forall_mem_cons.mpr ⟨(in_t6 _ (mm_at 183 rfl)), List.forall_mem_cons.mpr ⟨(in_t6 _ (mm_at 184 rfl)), List.forall_mem_cons.mpr ⟨(in_t4 _ (mm_at 6 rfl)), List.forall_mem_cons.mpr ⟨(in_t4 _ (mm_at 7 rfl)), List.forall_mem_cons.mpr ⟨(in_t4 _ (mm_at 8 rfl)), List.forall_mem_cons.mpr ⟨(in_t4 _ (mm_at 9 rfl)), List.forall_mem_cons.mpr ⟨(in_t4 _ (mm_at 10 rfl)), List.forall_mem_cons.mpr ⟨(in_t4 _ (mm_at 12 rfl)), List.forall_mem_cons.mpr ⟨(in_sel _ (mm_at 22 rfl)), List.forall_mem_cons.mpr ⟨(in_t4 _ (mm_at 13 rfl)), List.forall_mem_cons.mpr ⟨(in_t4 _ (mm_at 14 rfl)), List.forall_mem_cons.mpr ⟨(in_t4 _ (mm_at 15 rfl)), List.forall_mem_cons.mpr ⟨(in_t4 _ (mm_at 16 rfl)), List.forall_mem_cons.mpr ⟨(in_t4 _ (mm_at 17 rfl)), List.forall_mem_cons.mpr ⟨(in_t6 _ (mm_at 185 rfl)), List.forall_mem_cons.mpr ⟨(in_t6 _ (mm_at 186 rfl)), List.forall_mem_cons.mpr ⟨(in_t6 _ (mm_at 187 rfl)), List.forall_mem_cons.mpr ⟨(in_t6 _ (mm_at 188 rfl)), fun _ h => absurd h List.not_mem_nil⟩⟩⟩⟩⟩⟩⟩⟩⟩⟩⟩⟩⟩⟩⟩⟩⟩⟩⟩⟩⟩⟩⟩⟩
set_option maxRecDepth 20000 in
theorem tb_r33 : ∀ w ∈ wsL_law_r33, w ∈ lw_tbl := List.forall_mem_cons.mpr ⟨(in_t6 _ (mm_at 189 rfl)), List.forall_mem_cons.mpr ⟨(in_t4 _ (mm_at 18 rfl)), List.forall_mem_cons.mpr ⟨(in_t4 _ (mm_at 19 rfl)), List.forall_mem_cons.mpr ⟨(in_t4 _ (mm_at 20 rfl)), List.forall_mem_cons.mpr ⟨(in_t4 _ (mm_at 21 rfl)), List.forall_mem_cons.mpr ⟨(in_t4 _ (mm_at 22 rfl)), List.forall_mem_cons.mpr ⟨(in_t4 _ (mm_at 23 rfl)), List.forall_mem_cons.mpr ⟨(in_t4 _ (mm_at 24 rfl)), List.forall_mem_cons.mpr ⟨(in_t4 _ (mm_at 25 rfl)), List.forall_mem_cons.mpr ⟨(in_t4 _ (mm_at 26 rfl)), List.forall_mem_cons.mpr ⟨(in_t4 _ (mm_at 27 rfl)), List.forall_mem_cons.mpr ⟨(in_t4 _ (mm_at 28 rfl)), List.forall_mem_cons.mpr ⟨(in_t1 _ (mm_at 190 rfl)), List.forall_mem_cons.mpr ⟨(in_t4 _ (mm_at 36 rfl)), List.forall_mem_cons.mpr ⟨(in_t1 _ (mm_at 192 rfl)), List.forall_mem_cons.mpr ⟨(in_t4 _ (mm_at 29 rfl)), List.forall_mem_cons.mpr ⟨(in_t4 _ (mm_at 30 rfl)), List.forall_mem_cons.mpr ⟨(in_t4 _ (mm_at 31 rfl)), List.forall_mem_cons.mpr ⟨(in_t4 _ (mm_at 32 rfl)), List.forall_mem_cons.mpr ⟨(in_t4 _ (mm_at 34 rfl)), List.forall_mem_cons.mpr ⟨(in_sel _ (mm_at 23 rfl)), List.forall_mem_cons.mpr ⟨(in_t4 _ (mm_at 35 rfl)), List.forall_mem_cons.mpr ⟨(in_t4 _ (mm_at 37 rfl)), List.forall_mem_cons.mpr ⟨(in_t4 _ (mm_at 38 rfl)), fun _ h => absurd h List.not_mem_nil⟩⟩⟩⟩⟩⟩⟩⟩⟩⟩⟩⟩⟩⟩⟩⟩⟩⟩⟩⟩⟩⟩⟩⟩
set_option maxRecDepth 20000 in
theorem tb_r34 : ∀ w ∈ wsL_law_r34, w ∈ lw_tbl := List.forall_mem_cons.mpr ⟨(in_t4 _ (mm_at 39 rfl)), List.forall_mem_cons.mpr ⟨(in_t4 _ (mm_at 40 rfl)), List.forall_mem_cons.mpr ⟨(in_t4 _ (mm_at 41 rfl)), List.forall_mem_cons.mpr ⟨(in_t6 _ (mm_at 190 rfl)), List.forall_mem_cons.mpr ⟨(in_t6 _ (mm_at 191 rfl)), List.forall_mem_cons.mpr ⟨(in_t6 _ (mm_at 192 rfl)), List.forall_mem_cons.mpr ⟨(in_t6 _ (mm_at 193 rfl)), List.forall_mem_cons.mpr ⟨(in_t6 _ (mm_at 198 rfl)), List.forall_mem_cons.mpr ⟨(in_t6 _ (mm_at 194 rfl)), List.forall_mem_cons.mpr ⟨(in_t6 _ (mm_at 195 rfl)), List.forall_mem_cons.mpr ⟨(in_t6 _ (mm_at 196 rfl)), List.forall_mem_cons.mpr ⟨(in_t6 _ (mm_at 197 rfl)), List.forall_mem_cons.mpr ⟨(in_t4 _ (mm_at 42 rfl)), List.forall_mem_cons.mpr ⟨(in_t4 _ (mm_at 43 rfl)), List.forall_mem_cons.mpr ⟨(in_t4 _ (mm_at 44 rfl)), List.forall_mem_cons.mpr ⟨(in_t4 _ (mm_at 45 rfl)), List.forall_mem_cons.mpr ⟨(in_t1 _ (mm_at 202 rfl)), List.forall_mem_cons.mpr ⟨(in_t1 _ (mm_at 204 rfl)), List.forall_mem_cons.mpr ⟨(in_t1 _ (mm_at 206 rfl)), List.forall_mem_cons.mpr ⟨(in_t4 _ (mm_at 46 rfl)), List.forall_mem_cons.mpr ⟨(in_t4 _ (mm_at 47 rfl)), List.forall_mem_cons.mpr ⟨(in_t4 _ (mm_at 48 rfl)), List.forall_mem_cons.mpr ⟨(in_t6 _ (mm_at 199 rfl)), List.forall_mem_cons.mpr ⟨(in_t6 _ (mm_at 200 rfl)), fun _ h => absurd h List.not_mem_nil⟩⟩⟩⟩⟩⟩⟩⟩⟩⟩⟩⟩⟩⟩⟩⟩⟩⟩⟩⟩⟩⟩⟩⟩
set_option maxRecDepth 20000 in
theorem tb_r35 : ∀ w ∈ wsL_law_r35, w ∈ lw_tbl := List.forall_mem_cons.mpr ⟨(in_t6 _ (mm_at 201 rfl)), List.forall_mem_cons.mpr ⟨(in_t6 _ (mm_at 202 rfl)), List.forall_mem_cons.mpr ⟨(in_t6 _ (mm_at 203 rfl)), List.forall_mem_cons.mpr ⟨(in_t6 _ (mm_at 204 rfl)), List.forall_mem_cons.mpr ⟨(in_t6 _ (mm_at 205 rfl)), List.forall_mem_cons.mpr ⟨(in_t4 _ (mm_at 49 rfl)), List.forall_mem_cons.mpr ⟨(in_t4 _ (mm_at 50 rfl)), List.forall_mem_cons.mpr ⟨(in_t4 _ (mm_at 51 rfl)), List.forall_mem_cons.mpr ⟨(in_t4 _ (mm_at 52 rfl)), List.forall_mem_cons.mpr ⟨(in_t1 _ (mm_at 212 rfl)), List.forall_mem_cons.mpr ⟨(in_t4 _ (mm_at 53 rfl)), List.forall_mem_cons.mpr ⟨(in_t4 _ (mm_at 54 rfl)), List.forall_mem_cons.mpr ⟨(in_t4 _ (mm_at 55 rfl)), List.forall_mem_cons.mpr ⟨(in_t4 _ (mm_at 56 rfl)), List.forall_mem_cons.mpr ⟨(in_t4 _ (mm_at 57 rfl)), List.forall_mem_cons.mpr ⟨(in_t4 _ (mm_at 58 rfl)), List.forall_mem_cons.mpr ⟨(in_t4 _ (mm_at 59 rfl)), List.forall_mem_cons.mpr ⟨(in_t4 _ (mm_at 60 rfl)), List.forall_mem_cons.mpr ⟨(in_t4 _ (mm_at 61 rfl)), List.forall_mem_cons.mpr ⟨(in_t1 _ (mm_at 193 rfl)), List.forall_mem_cons.mpr ⟨(in_t4 _ (mm_at 62 rfl)), List.forall_mem_cons.mpr ⟨(in_t4 _ (mm_at 63 rfl)), List.forall_mem_cons.mpr ⟨(in_t4 _ (mm_at 64 rfl)), List.forall_mem_cons.mpr ⟨(in_t4 _ (mm_at 65 rfl)), fun _ h => absurd h List.not_mem_nil⟩⟩⟩⟩⟩⟩⟩⟩⟩⟩⟩⟩⟩⟩⟩⟩⟩⟩⟩⟩⟩⟩⟩⟩
set_option maxRecDepth 20000 in
theorem tb_r36 : ∀ w ∈ wsL_law_r36, w ∈ lw_tbl := List.forall_mem_cons.mpr ⟨(in_t4 _ (mm_at 66 rfl)), List.forall_mem_cons.mpr ⟨(in_t4 _ (mm_at 67 rfl)), List.forall_mem_cons.mpr ⟨(in_t4 _ (mm_at 68 rfl)), List.forall_mem_cons.mpr ⟨(in_t4 _ (mm_at 69 rfl)), List.forall_mem_cons.mpr ⟨(in_t4 _ (mm_at 70 rfl)), List.forall_mem_cons.mpr ⟨(in_t4 _ (mm_at 71 rfl)), List.forall_mem_cons.mpr ⟨(in_t4 _ (mm_at 72 rfl)), List.forall_mem_cons.mpr ⟨(in_t4 _ (mm_at 73 rfl)), List.forall_mem_cons.mpr ⟨(in_t4 _ (mm_at 74 rfl)), List.forall_mem_cons.mpr ⟨(in_t6 _ (mm_at 206 rfl)), List.forall_mem_cons.mpr ⟨(in_t6 _ (mm_at 207 rfl)), List.forall_mem_cons.mpr ⟨(in_t6 _ (mm_at 208 rfl)), List.forall_mem_cons.mpr ⟨(in_t6 _ (mm_at 209 rfl)), List.forall_mem_cons.mpr ⟨(in_t6 _ (mm_at 210 rfl)), List.forall_mem_cons.mpr ⟨(in_t5 _ (mm_at 66 rfl)), List.forall_mem_cons.mpr ⟨(in_t6 _ (mm_at 211 rfl)), List.forall_mem_cons.mpr ⟨(in_t6 _ (mm_at 213 rfl)), List.forall_mem_cons.mpr ⟨(in_sel _ (mm_at 50 rfl)), List.forall_mem_cons.mpr ⟨(in_t6 _ (mm_at 214 rfl)), List.forall_mem_cons.mpr ⟨(in_t5 _ (mm_at 69 rfl)), List.forall_mem_cons.mpr ⟨(in_t5 _ (mm_at 70 rfl)), List.forall_mem_cons.mpr ⟨(in_t5 _ (mm_at 71 rfl)), List.forall_mem_cons.mpr ⟨(in_t5 _ (mm_at 72 rfl)), List.forall_mem_cons.mpr ⟨(in_t5 _ (mm_at 64 rfl)), fun _ h => absurd h List.not_mem_nil⟩⟩⟩⟩⟩⟩⟩⟩⟩⟩⟩⟩⟩⟩⟩⟩⟩⟩⟩⟩⟩⟩⟩⟩
set_option maxRecDepth 20000 in
theorem tb_r37 : ∀ w ∈ wsL_law_r37, w ∈ lw_tbl := List.forall_mem_cons.mpr ⟨(in_t5 _ (mm_at 65 rfl)), List.forall_mem_cons.mpr ⟨(in_t6 _ (mm_at 215 rfl)), List.forall_mem_cons.mpr ⟨(in_t6 _ (mm_at 217 rfl)), List.forall_mem_cons.mpr ⟨(in_sel _ (mm_at 51 rfl)), List.forall_mem_cons.mpr ⟨(in_t6 _ (mm_at 218 rfl)), List.forall_mem_cons.mpr ⟨(in_t6 _ (mm_at 219 rfl)), List.forall_mem_cons.mpr ⟨(in_t6 _ (mm_at 221 rfl)), List.forall_mem_cons.mpr ⟨(in_sel _ (mm_at 52 rfl)), List.forall_mem_cons.mpr ⟨(in_t6 _ (mm_at 222 rfl)), List.forall_mem_cons.mpr ⟨(in_t6 _ (mm_at 223 rfl)), List.forall_mem_cons.mpr ⟨(in_t6 _ (mm_at 225 rfl)), List.forall_mem_cons.mpr ⟨(in_sel _ (mm_at 53 rfl)), List.forall_mem_cons.mpr ⟨(in_t6 _ (mm_at 226 rfl)), List.forall_mem_cons.mpr ⟨(in_t4 _ (mm_at 75 rfl)), List.forall_mem_cons.mpr ⟨(in_t4 _ (mm_at 76 rfl)), List.forall_mem_cons.mpr ⟨(in_t4 _ (mm_at 77 rfl)), List.forall_mem_cons.mpr ⟨(in_t4 _ (mm_at 78 rfl)), List.forall_mem_cons.mpr ⟨(in_t1 _ (mm_at 217 rfl)), List.forall_mem_cons.mpr ⟨(in_t1 _ (mm_at 215 rfl)), List.forall_mem_cons.mpr ⟨(in_t4 _ (mm_at 79 rfl)), List.forall_mem_cons.mpr ⟨(in_t4 _ (mm_at 80 rfl)), List.forall_mem_cons.mpr ⟨(in_t4 _ (mm_at 81 rfl)), List.forall_mem_cons.mpr ⟨(in_t4 _ (mm_at 82 rfl)), List.forall_mem_cons.mpr ⟨(in_t4 _ (mm_at 83 rfl)), fun _ h => absurd h List.not_mem_nil⟩⟩⟩⟩⟩⟩⟩⟩⟩⟩⟩⟩⟩⟩⟩⟩⟩⟩⟩⟩⟩⟩⟩⟩
set_option maxRecDepth 20000 in
theorem tb_r38 : ∀ w ∈ wsL_law_r38, w ∈ lw_tbl := List.forall_mem_cons.mpr ⟨(in_t4 _ (mm_at 84 rfl)), List.forall_mem_cons.mpr ⟨(in_t4 _ (mm_at 85 rfl)), List.forall_mem_cons.mpr ⟨(in_t4 _ (mm_at 86 rfl)), List.forall_mem_cons.mpr ⟨(in_t4 _ (mm_at 87 rfl)), List.forall_mem_cons.mpr ⟨(in_t4 _ (mm_at 88 rfl)), List.forall_mem_cons.mpr ⟨(in_t4 _ (mm_at 89 rfl)), List.forall_mem_cons.mpr ⟨(in_t6 _ (mm_at 227 rfl)), List.forall_mem_cons.mpr ⟨(in_t6 _ (mm_at 228 rfl)), List.forall_mem_cons.mpr ⟨(in_t6 _ (mm_at 229 rfl)), List.forall_mem_cons.mpr ⟨(in_t6 _ (mm_at 230 rfl)), List.forall_mem_cons.mpr ⟨(in_t6 _ (mm_at 231 rfl)), List.forall_mem_cons.mpr ⟨(in_t6 _ (mm_at 233 rfl)), List.forall_mem_cons.mpr ⟨(in_sel _ (mm_at 54 rfl)), List.forall_mem_cons.mpr ⟨(in_t6 _ (mm_at 234 rfl)), List.forall_mem_cons.mpr ⟨(in_t4 _ (mm_at 90 rfl)), List.forall_mem_cons.mpr ⟨(in_t4 _ (mm_at 91 rfl)), List.forall_mem_cons.mpr ⟨(in_t4 _ (mm_at 92 rfl)), List.forall_mem_cons.mpr ⟨(in_t4 _ (mm_at 93 rfl)), List.forall_mem_cons.mpr ⟨(in_t4 _ (mm_at 94 rfl)), List.forall_mem_cons.mpr ⟨(in_t4 _ (mm_at 95 rfl)), List.forall_mem_cons.mpr ⟨(in_t4 _ (mm_at 96 rfl)), List.forall_mem_cons.mpr ⟨(in_t4 _ (mm_at 97 rfl)), List.forall_mem_cons.mpr ⟨(in_t6 _ (mm_at 235 rfl)), List.forall_mem_cons.mpr ⟨(in_t6 _ (mm_at 236 rfl)), fun _ h => absurd h List.not_mem_nil⟩⟩⟩⟩⟩⟩⟩⟩⟩⟩⟩⟩⟩⟩⟩⟩⟩⟩⟩⟩⟩⟩⟩⟩
set_option maxRecDepth 20000 in
theorem tb_r39 : ∀ w ∈ wsL_law_r39, w ∈ lw_tbl := List.forall_mem_cons.mpr ⟨(in_t6 _ (mm_at 237 rfl)), List.forall_mem_cons.mpr ⟨(in_t6 _ (mm_at 238 rfl)), List.forall_mem_cons.mpr ⟨(in_t4 _ (mm_at 98 rfl)), List.forall_mem_cons.mpr ⟨(in_t4 _ (mm_at 99 rfl)), List.forall_mem_cons.mpr ⟨(in_t4 _ (mm_at 100 rfl)), List.forall_mem_cons.mpr ⟨(in_t4 _ (mm_at 101 rfl)), List.forall_mem_cons.mpr ⟨(in_t4 _ (mm_at 105 rfl)), List.forall_mem_cons.mpr ⟨(in_t4 _ (mm_at 102 rfl)), List.forall_mem_cons.mpr ⟨(in_t4 _ (mm_at 103 rfl)), List.forall_mem_cons.mpr ⟨(in_t4 _ (mm_at 104 rfl)), List.forall_mem_cons.mpr ⟨(in_t4 _ (mm_at 106 rfl)), List.forall_mem_cons.mpr ⟨(in_t4 _ (mm_at 108 rfl)), List.forall_mem_cons.mpr ⟨(in_sel _ (mm_at 24 rfl)), List.forall_mem_cons.mpr ⟨(in_t4 _ (mm_at 109 rfl)), List.forall_mem_cons.mpr ⟨(in_t6 _ (mm_at 239 rfl)), List.forall_mem_cons.mpr ⟨(in_t7 _ (mm_at 0 rfl)), List.forall_mem_cons.mpr ⟨(in_t7 _ (mm_at 1 rfl)), List.forall_mem_cons.mpr ⟨(in_t7 _ (mm_at 2 rfl)), List.forall_mem_cons.mpr ⟨(in_t7 _ (mm_at 3 rfl)), List.forall_mem_cons.mpr ⟨(in_t7 _ (mm_at 4 rfl)), List.forall_mem_cons.mpr ⟨(in_t7 _ (mm_at 5 rfl)), List.forall_mem_cons.mpr ⟨(in_t7 _ (mm_at 6 rfl)), List.forall_mem_cons.mpr ⟨(in_t7 _ (mm_at 7 rfl)), List.forall_mem_cons.mpr ⟨(in_t7 _ (mm_at 8 rfl)), fun _ h => absurd h List.not_mem_nil⟩⟩⟩⟩⟩⟩⟩⟩⟩⟩⟩⟩⟩⟩⟩⟩⟩⟩⟩⟩⟩⟩⟩⟩
set_option maxRecDepth 20000 in
theorem tb_r40 : ∀ w ∈ wsL_law_r40, w ∈ lw_tbl := List.forall_mem_cons.mpr ⟨(in_t4 _ (mm_at 110 rfl)), List.forall_mem_cons.mpr ⟨(in_t4 _ (mm_at 111 rfl)), List.forall_mem_cons.mpr ⟨(in_t4 _ (mm_at 112 rfl)), List.forall_mem_cons.mpr ⟨(in_t4 _ (mm_at 113 rfl)), List.forall_mem_cons.mpr ⟨(in_t4 _ (mm_at 114 rfl)), List.forall_mem_cons.mpr ⟨(in_t2 _ (mm_at 10 rfl)), List.forall_mem_cons.mpr ⟨(in_t7 _ (mm_at 9 rfl)), List.forall_mem_cons.mpr ⟨(in_t7 _ (mm_at 10 rfl)), List.forall_mem_cons.mpr ⟨(in_t7 _ (mm_at 11 rfl)), List.forall_mem_cons.mpr ⟨(in_t7 _ (mm_at 12 rfl)), List.forall_mem_cons.mpr ⟨(in_t7 _ (mm_at 13 rfl)), List.forall_mem_cons.mpr ⟨(in_t4 _ (mm_at 115 rfl)), List.forall_mem_cons.mpr ⟨(in_t4 _ (mm_at 116 rfl)), List.forall_mem_cons.mpr ⟨(in_t4 _ (mm_at 117 rfl)), List.forall_mem_cons.mpr ⟨(in_t4 _ (mm_at 118 rfl)), List.forall_mem_cons.mpr ⟨(in_t2 _ (mm_at 12 rfl)), List.forall_mem_cons.mpr ⟨(in_t4 _ (mm_at 119 rfl)), List.forall_mem_cons.mpr ⟨(in_t4 _ (mm_at 120 rfl)), List.forall_mem_cons.mpr ⟨(in_t4 _ (mm_at 121 rfl)), List.forall_mem_cons.mpr ⟨(in_t4 _ (mm_at 122 rfl)), List.forall_mem_cons.mpr ⟨(in_t7 _ (mm_at 14 rfl)), List.forall_mem_cons.mpr ⟨(in_t7 _ (mm_at 15 rfl)), List.forall_mem_cons.mpr ⟨(in_t7 _ (mm_at 16 rfl)), List.forall_mem_cons.mpr ⟨(in_t7 _ (mm_at 17 rfl)), fun _ h => absurd h List.not_mem_nil⟩⟩⟩⟩⟩⟩⟩⟩⟩⟩⟩⟩⟩⟩⟩⟩⟩⟩⟩⟩⟩⟩⟩⟩
set_option maxRecDepth 20000 in
theorem tb_r41 : ∀ w ∈ wsL_law_r41, w ∈ lw_tbl := List.forall_mem_cons.mpr ⟨(in_t7 _ (mm_at 18 rfl)), List.forall_mem_cons.mpr ⟨(in_t7 _ (mm_at 20 rfl)), List.forall_mem_cons.mpr ⟨(in_sel _ (mm_at 55 rfl)), List.forall_mem_cons.mpr ⟨(in_t7 _ (mm_at 21 rfl)), List.forall_mem_cons.mpr ⟨(in_t4 _ (mm_at 123 rfl)), List.forall_mem_cons.mpr ⟨(in_t4 _ (mm_at 124 rfl)), List.forall_mem_cons.mpr ⟨(in_t4 _ (mm_at 125 rfl)), List.forall_mem_cons.mpr ⟨(in_t4 _ (mm_at 126 rfl)), List.forall_mem_cons.mpr ⟨(in_t2 _ (mm_at 22 rfl)), List.forall_mem_cons.mpr ⟨(in_t4 _ (mm_at 127 rfl)), List.forall_mem_cons.mpr ⟨(in_t4 _ (mm_at 128 rfl)), List.forall_mem_cons.mpr ⟨(in_t4 _ (mm_at 129 rfl)), List.forall_mem_cons.mpr ⟨(in_t4 _ (mm_at 130 rfl)), List.forall_mem_cons.mpr ⟨(in_t2 _ (mm_at 16 rfl)), List.forall_mem_cons.mpr ⟨(in_t2 _ (mm_at 17 rfl)), List.forall_mem_cons.mpr ⟨(in_t2 _ (mm_at 18 rfl)), List.forall_mem_cons.mpr ⟨(in_t2 _ (mm_at 19 rfl)), List.forall_mem_cons.mpr ⟨(in_t2 _ (mm_at 20 rfl)), List.forall_mem_cons.mpr ⟨(in_t4 _ (mm_at 132 rfl)), List.forall_mem_cons.mpr ⟨(in_t4 _ (mm_at 133 rfl)), List.forall_mem_cons.mpr ⟨(in_t4 _ (mm_at 134 rfl)), List.forall_mem_cons.mpr ⟨(in_t4 _ (mm_at 135 rfl)), List.forall_mem_cons.mpr ⟨(in_t2 _ (mm_at 23 rfl)), List.forall_mem_cons.mpr ⟨(in_t2 _ (mm_at 21 rfl)), fun _ h => absurd h List.not_mem_nil⟩⟩⟩⟩⟩⟩⟩⟩⟩⟩⟩⟩⟩⟩⟩⟩⟩⟩⟩⟩⟩⟩⟩⟩
set_option maxRecDepth 20000 in
theorem tb_r42 : ∀ w ∈ wsL_law_r42, w ∈ lw_tbl := List.forall_mem_cons.mpr ⟨(in_t4 _ (mm_at 136 rfl)), List.forall_mem_cons.mpr ⟨(in_t4 _ (mm_at 137 rfl)), List.forall_mem_cons.mpr ⟨(in_t4 _ (mm_at 139 rfl)), List.forall_mem_cons.mpr ⟨(in_sel _ (mm_at 25 rfl)), List.forall_mem_cons.mpr ⟨(in_t4 _ (mm_at 140 rfl)), List.forall_mem_cons.mpr ⟨(in_t4 _ (mm_at 141 rfl)), List.forall_mem_cons.mpr ⟨(in_t4 _ (mm_at 142 rfl)), List.forall_mem_cons.mpr ⟨(in_t4 _ (mm_at 143 rfl)), List.forall_mem_cons.mpr ⟨(in_t4 _ (mm_at 144 rfl)), List.forall_mem_cons.mpr ⟨(in_t4 _ (mm_at 145 rfl)), List.forall_mem_cons.mpr ⟨(in_t4 _ (mm_at 146 rfl)), List.forall_mem_cons.mpr ⟨(in_t4 _ (mm_at 147 rfl)), List.forall_mem_cons.mpr ⟨(in_t4 _ (mm_at 148 rfl)), List.forall_mem_cons.mpr ⟨(in_t4 _ (mm_at 149 rfl)), List.forall_mem_cons.mpr ⟨(in_t4 _ (mm_at 150 rfl)), List.forall_mem_cons.mpr ⟨(in_t4 _ (mm_at 151 rfl)), List.forall_mem_cons.mpr ⟨(in_t4 _ (mm_at 152 rfl)), List.forall_mem_cons.mpr ⟨(in_t4 _ (mm_at 153 rfl)), List.forall_mem_cons.mpr ⟨(in_t7 _ (mm_at 22 rfl)), List.forall_mem_cons.mpr ⟨(in_t7 _ (mm_at 23 rfl)), List.forall_mem_cons.mpr ⟨(in_t7 _ (mm_at 24 rfl)), List.forall_mem_cons.mpr ⟨(in_t7 _ (mm_at 25 rfl)), List.forall_mem_cons.mpr ⟨(in_t7 _ (mm_at 26 rfl)), List.forall_mem_cons.mpr ⟨(in_t7 _ (mm_at 28 rfl)), fun _ h => absurd h List.not_mem_nil⟩⟩⟩⟩⟩⟩⟩⟩⟩⟩⟩⟩⟩⟩⟩⟩⟩⟩⟩⟩⟩⟩⟩⟩
set_option maxRecDepth 20000 in
theorem tb_r43 : ∀ w ∈ wsL_law_r43, w ∈ lw_tbl := List.forall_mem_cons.mpr ⟨(in_sel _ (mm_at 56 rfl)), List.forall_mem_cons.mpr ⟨(in_t7 _ (mm_at 29 rfl)), List.forall_mem_cons.mpr ⟨(in_t5 _ (mm_at 80 rfl)), List.forall_mem_cons.mpr ⟨(in_t5 _ (mm_at 81 rfl)), List.forall_mem_cons.mpr ⟨(in_t5 _ (mm_at 82 rfl)), List.forall_mem_cons.mpr ⟨(in_t5 _ (mm_at 83 rfl)), List.forall_mem_cons.mpr ⟨(in_t5 _ (mm_at 84 rfl)), List.forall_mem_cons.mpr ⟨(in_t7 _ (mm_at 30 rfl)), List.forall_mem_cons.mpr ⟨(in_t7 _ (mm_at 31 rfl)), List.forall_mem_cons.mpr ⟨(in_t7 _ (mm_at 33 rfl)), List.forall_mem_cons.mpr ⟨(in_sel _ (mm_at 57 rfl)), List.forall_mem_cons.mpr ⟨(in_t7 _ (mm_at 34 rfl)), List.forall_mem_cons.mpr ⟨(in_t7 _ (mm_at 35 rfl)), List.forall_mem_cons.mpr ⟨(in_t7 _ (mm_at 37 rfl)), List.forall_mem_cons.mpr ⟨(in_sel _ (mm_at 58 rfl)), List.forall_mem_cons.mpr ⟨(in_t7 _ (mm_at 38 rfl)), List.forall_mem_cons.mpr ⟨(in_t7 _ (mm_at 39 rfl)), List.forall_mem_cons.mpr ⟨(in_t7 _ (mm_at 40 rfl)), List.forall_mem_cons.mpr ⟨(in_t7 _ (mm_at 42 rfl)), List.forall_mem_cons.mpr ⟨(in_sel _ (mm_at 59 rfl)), List.forall_mem_cons.mpr ⟨(in_t7 _ (mm_at 43 rfl)), List.forall_mem_cons.mpr ⟨(in_t7 _ (mm_at 44 rfl)), List.forall_mem_cons.mpr ⟨(in_t7 _ (mm_at 46 rfl)), List.forall_mem_cons.mpr ⟨(in_sel _ (mm_at 60 rfl)), fun _ h => absurd h List.not_mem_nil⟩⟩⟩⟩⟩⟩⟩⟩⟩⟩⟩⟩⟩⟩⟩⟩⟩⟩⟩⟩⟩⟩⟩⟩
set_option maxRecDepth 20000 in
theorem tb_r44 : ∀ w ∈ wsL_law_r44, w ∈ lw_tbl := List.forall_mem_cons.mpr ⟨(in_t7 _ (mm_at 47 rfl)), List.forall_mem_cons.mpr ⟨(in_t4 _ (mm_at 154 rfl)), List.forall_mem_cons.mpr ⟨(in_t4 _ (mm_at 155 rfl)), List.forall_mem_cons.mpr ⟨(in_t4 _ (mm_at 156 rfl)), List.forall_mem_cons.mpr ⟨(in_t4 _ (mm_at 157 rfl)), List.forall_mem_cons.mpr ⟨(in_t4 _ (mm_at 158 rfl)), List.forall_mem_cons.mpr ⟨(in_t4 _ (mm_at 159 rfl)), List.forall_mem_cons.mpr ⟨(in_t7 _ (mm_at 48 rfl)), List.forall_mem_cons.mpr ⟨(in_t7 _ (mm_at 49 rfl)), List.forall_mem_cons.mpr ⟨(in_t7 _ (mm_at 50 rfl)), List.forall_mem_cons.mpr ⟨(in_t7 _ (mm_at 51 rfl)), List.forall_mem_cons.mpr ⟨(in_t4 _ (mm_at 160 rfl)), List.forall_mem_cons.mpr ⟨(in_t4 _ (mm_at 161 rfl)), List.forall_mem_cons.mpr ⟨(in_t4 _ (mm_at 162 rfl)), List.forall_mem_cons.mpr ⟨(in_t4 _ (mm_at 163 rfl)), List.forall_mem_cons.mpr ⟨(in_t4 _ (mm_at 164 rfl)), List.forall_mem_cons.mpr ⟨(in_t4 _ (mm_at 165 rfl)), List.forall_mem_cons.mpr ⟨(in_t4 _ (mm_at 166 rfl)), List.forall_mem_cons.mpr ⟨(in_t2 _ (mm_at 141 rfl)), List.forall_mem_cons.mpr ⟨(in_t4 _ (mm_at 167 rfl)), List.forall_mem_cons.mpr ⟨(in_t4 _ (mm_at 169 rfl)), List.forall_mem_cons.mpr ⟨(in_sel _ (mm_at 26 rfl)), List.forall_mem_cons.mpr ⟨(in_t4 _ (mm_at 170 rfl)), List.forall_mem_cons.mpr ⟨(in_t4 _ (mm_at 177 rfl)), fun _ h => absurd h List.not_mem_nil⟩⟩⟩⟩⟩⟩⟩⟩⟩⟩⟩⟩⟩⟩⟩⟩⟩⟩⟩⟩⟩⟩⟩⟩
set_option maxRecDepth 20000 in
theorem tb_r45 : ∀ w ∈ wsL_law_r45, w ∈ lw_tbl := List.forall_mem_cons.mpr ⟨(in_t4 _ (mm_at 171 rfl)), List.forall_mem_cons.mpr ⟨(in_t4 _ (mm_at 172 rfl)), List.forall_mem_cons.mpr ⟨(in_t1 _ (mm_at 19 rfl)), List.forall_mem_cons.mpr ⟨(in_t4 _ (mm_at 173 rfl)), List.forall_mem_cons.mpr ⟨(in_t4 _ (mm_at 174 rfl)), List.forall_mem_cons.mpr ⟨(in_t4 _ (mm_at 175 rfl)), List.forall_mem_cons.mpr ⟨(in_t4 _ (mm_at 176 rfl)), List.forall_mem_cons.mpr ⟨(in_t4 _ (mm_at 178 rfl)), List.forall_mem_cons.mpr ⟨(in_t4 _ (mm_at 179 rfl)), List.forall_mem_cons.mpr ⟨(in_t4 _ (mm_at 180 rfl)), List.forall_mem_cons.mpr ⟨(in_t4 _ (mm_at 181 rfl)), List.forall_mem_cons.mpr ⟨(in_t4 _ (mm_at 182 rfl)), List.forall_mem_cons.mpr ⟨(in_t4 _ (mm_at 183 rfl)), List.forall_mem_cons.mpr ⟨(in_t4 _ (mm_at 184 rfl)), List.forall_mem_cons.mpr ⟨(in_t4 _ (mm_at 185 rfl)), List.forall_mem_cons.mpr ⟨(in_t4 _ (mm_at 186 rfl)), List.forall_mem_cons.mpr ⟨(in_t4 _ (mm_at 187 rfl)), List.forall_mem_cons.mpr ⟨(in_t4 _ (mm_at 188 rfl)), List.forall_mem_cons.mpr ⟨(in_t4 _ (mm_at 189 rfl)), List.forall_mem_cons.mpr ⟨(in_t4 _ (mm_at 191 rfl)), List.forall_mem_cons.mpr ⟨(in_sel _ (mm_at 27 rfl)), List.forall_mem_cons.mpr ⟨(in_t4 _ (mm_at 192 rfl)), List.forall_mem_cons.mpr ⟨(in_t7 _ (mm_at 52 rfl)), List.forall_mem_cons.mpr ⟨(in_t7 _ (mm_at 53 rfl)), fun _ h => absurd h List.not_mem_nil⟩⟩⟩⟩⟩⟩⟩⟩⟩⟩⟩⟩⟩⟩⟩⟩⟩⟩⟩⟩⟩⟩⟩⟩
set_option maxRecDepth 20000 in
theorem tb_r46 : ∀ w ∈ wsL_law_r46, w ∈ lw_tbl := List.forall_mem_cons.mpr ⟨(in_t7 _ (mm_at 54 rfl)), List.forall_mem_cons.mpr ⟨(in_t7 _ (mm_at 55 rfl)), List.forall_mem_cons.mpr ⟨(in_t7 _ (mm_at 56 rfl)), List.forall_mem_cons.mpr ⟨(in_t7 _ (mm_at 57 rfl)), List.forall_mem_cons.mpr ⟨(in_t5 _ (mm_at 94 rfl)), List.forall_mem_cons.mpr ⟨(in_t7 _ (mm_at 58 rfl)), List.forall_mem_cons.mpr ⟨(in_t7 _ (mm_at 60 rfl)), List.forall_mem_cons.mpr ⟨(in_sel _ (mm_at 61 rfl)), List.forall_mem_cons.mpr ⟨(in_t7 _ (mm_at 61 rfl)), List.forall_mem_cons.mpr ⟨(in_t7 _ (mm_at 62 rfl)), List.forall_mem_cons.mpr ⟨(in_t7 _ (mm_at 64 rfl)), List.forall_mem_cons.mpr ⟨(in_sel _ (mm_at 62 rfl)), List.forall_mem_cons.mpr ⟨(in_t7 _ (mm_at 65 rfl)), List.forall_mem_cons.mpr ⟨(in_t7 _ (mm_at 66 rfl)), List.forall_mem_cons.mpr ⟨(in_t7 _ (mm_at 68 rfl)), List.forall_mem_cons.mpr ⟨(in_sel _ (mm_at 63 rfl)), List.forall_mem_cons.mpr ⟨(in_t7 _ (mm_at 69 rfl)), List.forall_mem_cons.mpr ⟨(in_t4 _ (mm_at 193 rfl)), List.forall_mem_cons.mpr ⟨(in_t4 _ (mm_at 194 rfl)), List.forall_mem_cons.mpr ⟨(in_t4 _ (mm_at 195 rfl)), List.forall_mem_cons.mpr ⟨(in_t4 _ (mm_at 196 rfl)), List.forall_mem_cons.mpr ⟨(in_t7 _ (mm_at 70 rfl)), List.forall_mem_cons.mpr ⟨(in_t7 _ (mm_at 71 rfl)), List.forall_mem_cons.mpr ⟨(in_t7 _ (mm_at 72 rfl)), fun _ h => absurd h List.not_mem_nil⟩⟩⟩⟩⟩⟩⟩⟩⟩⟩⟩⟩⟩⟩⟩⟩⟩⟩⟩⟩⟩⟩⟩⟩
set_option maxRecDepth 20000 in
theorem tb_r47 : ∀ w ∈ wsL_law_r47, w ∈ lw_tbl := List.forall_mem_cons.mpr ⟨(in_t7 _ (mm_at 73 rfl)), List.forall_mem_cons.mpr ⟨(in_t4 _ (mm_at 197 rfl)), List.forall_mem_cons.mpr ⟨(in_t4 _ (mm_at 198 rfl)), List.forall_mem_cons.mpr ⟨(in_t4 _ (mm_at 199 rfl)), List.forall_mem_cons.mpr ⟨(in_t4 _ (mm_at 200 rfl)), List.forall_mem_cons.mpr ⟨(in_t4 _ (mm_at 201 rfl)), List.forall_mem_cons.mpr ⟨(in_t4 _ (mm_at 202 rfl)), List.forall_mem_cons.mpr ⟨(in_t4 _ (mm_at 203 rfl)), List.forall_mem_cons.mpr ⟨(in_t4 _ (mm_at 204 rfl)), List.forall_mem_cons.mpr ⟨(in_t4 _ (mm_at 205 rfl)), List.forall_mem_cons.mpr ⟨(in_t4 _ (mm_at 206 rfl)), List.forall_mem_cons.mpr ⟨(in_t4 _ (mm_at 207 rfl)), List.forall_mem_cons.mpr ⟨(in_t1 _ (mm_at 155 rfl)), List.forall_mem_cons.mpr ⟨(in_t4 _ (mm_at 209 rfl)), List.forall_mem_cons.mpr ⟨(in_t4 _ (mm_at 210 rfl)), List.forall_mem_cons.mpr ⟨(in_t4 _ (mm_at 211 rfl)), List.forall_mem_cons.mpr ⟨(in_t4 _ (mm_at 212 rfl)), List.forall_mem_cons.mpr ⟨(in_t4 _ (mm_at 213 rfl)), List.forall_mem_cons.mpr ⟨(in_t1 _ (mm_at 152 rfl)), List.forall_mem_cons.mpr ⟨(in_t4 _ (mm_at 214 rfl)), List.forall_mem_cons.mpr ⟨(in_t7 _ (mm_at 74 rfl)), List.forall_mem_cons.mpr ⟨(in_t7 _ (mm_at 75 rfl)), List.forall_mem_cons.mpr ⟨(in_t7 _ (mm_at 76 rfl)), List.forall_mem_cons.mpr ⟨(in_t7 _ (mm_at 77 rfl)), fun _ h => absurd h List.not_mem_nil⟩⟩⟩⟩⟩⟩⟩⟩⟩⟩⟩⟩⟩⟩⟩⟩⟩⟩⟩⟩⟩⟩⟩⟩
set_option maxRecDepth 20000 in
theorem tb_r48 : ∀ w ∈ wsL_law_r48, w ∈ lw_tbl := List.forall_mem_cons.mpr ⟨(in_t7 _ (mm_at 78 rfl)), List.forall_mem_cons.mpr ⟨(in_t7 _ (mm_at 79 rfl)), List.forall_mem_cons.mpr ⟨(in_t7 _ (mm_at 80 rfl)), List.forall_mem_cons.mpr ⟨(in_t7 _ (mm_at 81 rfl)), List.forall_mem_cons.mpr ⟨(in_t7 _ (mm_at 82 rfl)), List.forall_mem_cons.mpr ⟨(in_t7 _ (mm_at 83 rfl)), List.forall_mem_cons.mpr ⟨(in_t7 _ (mm_at 84 rfl)), List.forall_mem_cons.mpr ⟨(in_t7 _ (mm_at 85 rfl)), List.forall_mem_cons.mpr ⟨(in_t7 _ (mm_at 87 rfl)), List.forall_mem_cons.mpr ⟨(in_sel _ (mm_at 64 rfl)), List.forall_mem_cons.mpr ⟨(in_t7 _ (mm_at 88 rfl)), List.forall_mem_cons.mpr ⟨(in_t4 _ (mm_at 215 rfl)), List.forall_mem_cons.mpr ⟨(in_t4 _ (mm_at 216 rfl)), List.forall_mem_cons.mpr ⟨(in_t4 _ (mm_at 217 rfl)), List.forall_mem_cons.mpr ⟨(in_t4 _ (mm_at 218 rfl)), List.forall_mem_cons.mpr ⟨(in_t4 _ (mm_at 219 rfl)), List.forall_mem_cons.mpr ⟨(in_t4 _ (mm_at 220 rfl)), List.forall_mem_cons.mpr ⟨(in_t4 _ (mm_at 221 rfl)), List.forall_mem_cons.mpr ⟨(in_t4 _ (mm_at 222 rfl)), List.forall_mem_cons.mpr ⟨(in_t4 _ (mm_at 223 rfl)), List.forall_mem_cons.mpr ⟨(in_t4 _ (mm_at 224 rfl)), List.forall_mem_cons.mpr ⟨(in_t4 _ (mm_at 225 rfl)), List.forall_mem_cons.mpr ⟨(in_t4 _ (mm_at 226 rfl)), List.forall_mem_cons.mpr ⟨(in_t4 _ (mm_at 227 rfl)), fun _ h => absurd h List.not_mem_nil⟩⟩⟩⟩⟩⟩⟩⟩⟩⟩⟩⟩⟩⟩⟩⟩⟩⟩⟩⟩⟩⟩⟩⟩
set_option maxRecDepth 20000 in
theorem tb_r49 : ∀ w ∈ wsL_law_r49, w ∈ lw_tbl := List.forall_mem_cons.mpr ⟨(in_t1 _ (mm_at 150 rfl)), List.forall_mem_cons.mpr ⟨(in_t4 _ (mm_at 228 rfl)), List.forall_mem_cons.mpr ⟨(in_t4 _ (mm_at 230 rfl)), List.forall_mem_cons.mpr ⟨(in_sel _ (mm_at 28 rfl)), List.forall_mem_cons.mpr ⟨(in_t4 _ (mm_at 231 rfl)), List.forall_mem_cons.mpr ⟨(in_t4 _ (mm_at 232 rfl)), List.forall_mem_cons.mpr ⟨(in_t4 _ (mm_at 233 rfl)), List.forall_mem_cons.mpr ⟨(in_t4 _ (mm_at 234 rfl)), List.forall_mem_cons.mpr ⟨(in_t7 _ (mm_at 89 rfl)), List.forall_mem_cons.mpr ⟨(in_t7 _ (mm_at 90 rfl)), List.forall_mem_cons.mpr ⟨(in_t7 _ (mm_at 91 rfl)), List.forall_mem_cons.mpr ⟨(in_t7 _ (mm_at 92 rfl)), List.forall_mem_cons.mpr ⟨(in_t7 _ (mm_at 93 rfl)), List.forall_mem_cons.mpr ⟨(in_t7 _ (mm_at 95 rfl)), List.forall_mem_cons.mpr ⟨(in_sel _ (mm_at 65 rfl)), List.forall_mem_cons.mpr ⟨(in_t7 _ (mm_at 96 rfl)), List.forall_mem_cons.mpr ⟨(in_t4 _ (mm_at 235 rfl)), List.forall_mem_cons.mpr ⟨(in_t4 _ (mm_at 236 rfl)), List.forall_mem_cons.mpr ⟨(in_t4 _ (mm_at 237 rfl)), List.forall_mem_cons.mpr ⟨(in_t4 _ (mm_at 238 rfl)), List.forall_mem_cons.mpr ⟨(in_t4 _ (mm_at 239 rfl)), List.forall_mem_cons.mpr ⟨(in_t5 _ (mm_at 0 rfl)), List.forall_mem_cons.mpr ⟨(in_t5 _ (mm_at 1 rfl)), List.forall_mem_cons.mpr ⟨(in_t5 _ (mm_at 2 rfl)), fun _ h => absurd h List.not_mem_nil⟩⟩⟩⟩⟩⟩⟩⟩⟩⟩⟩⟩⟩⟩⟩⟩⟩⟩⟩⟩⟩⟩⟩⟩
set_option maxRecDepth 20000 in
theorem tb_r50 : ∀ w ∈ wsL_law_r50, w ∈ lw_tbl := List.forall_mem_cons.mpr ⟨(in_t5 _ (mm_at 3 rfl)), List.forall_mem_cons.mpr ⟨(in_t5 _ (mm_at 4 rfl)), List.forall_mem_cons.mpr ⟨(in_t5 _ (mm_at 5 rfl)), List.forall_mem_cons.mpr ⟨(in_t5 _ (mm_at 6 rfl)), List.forall_mem_cons.mpr ⟨(in_t5 _ (mm_at 7 rfl)), List.forall_mem_cons.mpr ⟨(in_t5 _ (mm_at 8 rfl)), List.forall_mem_cons.mpr ⟨(in_t7 _ (mm_at 97 rfl)), List.forall_mem_cons.mpr ⟨(in_t7 _ (mm_at 98 rfl)), List.forall_mem_cons.mpr ⟨(in_t7 _ (mm_at 99 rfl)), List.forall_mem_cons.mpr ⟨(in_t7 _ (mm_at 100 rfl)), List.forall_mem_cons.mpr ⟨(in_t5 _ (mm_at 9 rfl)), List.forall_mem_cons.mpr ⟨(in_t5 _ (mm_at 10 rfl)), List.forall_mem_cons.mpr ⟨(in_t5 _ (mm_at 11 rfl)), List.forall_mem_cons.mpr ⟨(in_t5 _ (mm_at 12 rfl)), List.forall_mem_cons.mpr ⟨(in_t1 _ (mm_at 63 rfl)), List.forall_mem_cons.mpr ⟨(in_t7 _ (mm_at 101 rfl)), List.forall_mem_cons.mpr ⟨(in_t7 _ (mm_at 102 rfl)), List.forall_mem_cons.mpr ⟨(in_t7 _ (mm_at 103 rfl)), List.forall_mem_cons.mpr ⟨(in_t7 _ (mm_at 104 rfl)), fun _ h => absurd h List.not_mem_nil⟩⟩⟩⟩⟩⟩⟩⟩⟩⟩⟩⟩⟩⟩⟩⟩⟩⟩⟩
set_option maxRecDepth 20000 in
theorem tb_X10 : ∀ w ∈ wsX100, w ∈ lw_tbl := by
  intro w hw
  obtain ⟨k, hk, rfl⟩ := List.mem_map.mp hw
  have hk := List.mem_range.mp hk
  match k, hk with
  | 0, _ => exact (in_t2 _ (mm_at 142 rfl))
  | 1, _ => exact (in_t2 _ (mm_at 144 rfl))
  | 2, _ => exact (in_t2 _ (mm_at 146 rfl))
  | 3, _ => exact (in_t2 _ (mm_at 148 rfl))
  | 4, _ => exact (in_t2 _ (mm_at 150 rfl))
  | 5, _ => exact (in_t2 _ (mm_at 152 rfl))
  | 6, _ => exact (in_t2 _ (mm_at 154 rfl))
  | 7, _ => exact (in_t2 _ (mm_at 156 rfl))
  | 8, _ => exact (in_t2 _ (mm_at 158 rfl))
  | 9, _ => exact (in_t2 _ (mm_at 160 rfl))
  | 10, _ => exact (in_t2 _ (mm_at 162 rfl))
  | 11, _ => exact (in_t2 _ (mm_at 164 rfl))
  | 12, _ => exact (in_t2 _ (mm_at 166 rfl))
  | 13, _ => exact (in_t2 _ (mm_at 168 rfl))
  | 14, _ => exact (in_t2 _ (mm_at 170 rfl))
  | 15, _ => exact (in_t2 _ (mm_at 172 rfl))
  | k + 16, h => exact absurd h (by omega)
set_option maxRecDepth 20000 in
theorem tb_X11 : ∀ w ∈ wsX110, w ∈ lw_tbl := by
  intro w hw
  obtain ⟨k, hk, rfl⟩ := List.mem_map.mp hw
  have hk := List.mem_range.mp hk
  match k, hk with
  | 0, _ => exact (in_t5 _ (mm_at 95 rfl))
  | 1, _ => exact (in_t5 _ (mm_at 97 rfl))
  | 2, _ => exact (in_t5 _ (mm_at 99 rfl))
  | 3, _ => exact (in_t5 _ (mm_at 101 rfl))
  | 4, _ => exact (in_t5 _ (mm_at 103 rfl))
  | 5, _ => exact (in_t5 _ (mm_at 105 rfl))
  | 6, _ => exact (in_t5 _ (mm_at 107 rfl))
  | 7, _ => exact (in_t5 _ (mm_at 109 rfl))
  | 8, _ => exact (in_t5 _ (mm_at 111 rfl))
  | 9, _ => exact (in_t5 _ (mm_at 113 rfl))
  | 10, _ => exact (in_t5 _ (mm_at 115 rfl))
  | 11, _ => exact (in_t5 _ (mm_at 117 rfl))
  | 12, _ => exact (in_t5 _ (mm_at 119 rfl))
  | 13, _ => exact (in_t5 _ (mm_at 121 rfl))
  | 14, _ => exact (in_t5 _ (mm_at 123 rfl))
  | 15, _ => exact (in_t5 _ (mm_at 125 rfl))
  | 16, _ => exact (in_t5 _ (mm_at 127 rfl))
  | 17, _ => exact (in_t5 _ (mm_at 129 rfl))
  | 18, _ => exact (in_t5 _ (mm_at 131 rfl))
  | 19, _ => exact (in_t5 _ (mm_at 133 rfl))
  | 20, _ => exact (in_t5 _ (mm_at 135 rfl))
  | 21, _ => exact (in_t5 _ (mm_at 137 rfl))
  | 22, _ => exact (in_t5 _ (mm_at 139 rfl))
  | 23, _ => exact (in_t5 _ (mm_at 141 rfl))
  | 24, _ => exact (in_t5 _ (mm_at 143 rfl))
  | 25, _ => exact (in_t5 _ (mm_at 145 rfl))
  | 26, _ => exact (in_t5 _ (mm_at 147 rfl))
  | 27, _ => exact (in_t5 _ (mm_at 149 rfl))
  | 28, _ => exact (in_t5 _ (mm_at 151 rfl))
  | 29, _ => exact (in_t5 _ (mm_at 153 rfl))
  | 30, _ => exact (in_t5 _ (mm_at 155 rfl))
  | 31, _ => exact (in_t5 _ (mm_at 157 rfl))
  | 32, _ => exact (in_t5 _ (mm_at 159 rfl))
  | 33, _ => exact (in_t5 _ (mm_at 161 rfl))
  | 34, _ => exact (in_t5 _ (mm_at 163 rfl))
  | 35, _ => exact (in_t5 _ (mm_at 165 rfl))
  | 36, _ => exact (in_t5 _ (mm_at 167 rfl))
  | 37, _ => exact (in_t5 _ (mm_at 169 rfl))
  | 38, _ => exact (in_t5 _ (mm_at 171 rfl))
  | 39, _ => exact (in_t5 _ (mm_at 173 rfl))
  | 40, _ => exact (in_t5 _ (mm_at 175 rfl))
  | 41, _ => exact (in_t5 _ (mm_at 177 rfl))
  | 42, _ => exact (in_t5 _ (mm_at 179 rfl))
  | 43, _ => exact (in_t5 _ (mm_at 181 rfl))
  | 44, _ => exact (in_t5 _ (mm_at 183 rfl))
  | 45, _ => exact (in_t5 _ (mm_at 185 rfl))
  | 46, _ => exact (in_t5 _ (mm_at 187 rfl))
  | 47, _ => exact (in_t5 _ (mm_at 189 rfl))
  | 48, _ => exact (in_t5 _ (mm_at 191 rfl))
  | 49, _ => exact (in_t5 _ (mm_at 193 rfl))
  | 50, _ => exact (in_t5 _ (mm_at 195 rfl))
  | 51, _ => exact (in_t5 _ (mm_at 197 rfl))
  | 52, _ => exact (in_t5 _ (mm_at 199 rfl))
  | 53, _ => exact (in_t5 _ (mm_at 201 rfl))
  | 54, _ => exact (in_t5 _ (mm_at 203 rfl))
  | 55, _ => exact (in_t5 _ (mm_at 205 rfl))
  | 56, _ => exact (in_t5 _ (mm_at 207 rfl))
  | 57, _ => exact (in_t5 _ (mm_at 209 rfl))
  | 58, _ => exact (in_t5 _ (mm_at 211 rfl))
  | 59, _ => exact (in_t5 _ (mm_at 213 rfl))
  | 60, _ => exact (in_t5 _ (mm_at 215 rfl))
  | 61, _ => exact (in_t5 _ (mm_at 217 rfl))
  | 62, _ => exact (in_t5 _ (mm_at 219 rfl))
  | 63, _ => exact (in_t5 _ (mm_at 221 rfl))
  | 64, _ => exact (in_t5 _ (mm_at 223 rfl))
  | 65, _ => exact (in_t5 _ (mm_at 225 rfl))
  | 66, _ => exact (in_t5 _ (mm_at 227 rfl))
  | 67, _ => exact (in_t5 _ (mm_at 229 rfl))
  | 68, _ => exact (in_t5 _ (mm_at 231 rfl))
  | 69, _ => exact (in_t5 _ (mm_at 233 rfl))
  | 70, _ => exact (in_t5 _ (mm_at 235 rfl))
  | 71, _ => exact (in_t5 _ (mm_at 237 rfl))
  | 72, _ => exact (in_t5 _ (mm_at 239 rfl))
  | 73, _ => exact (in_t6 _ (mm_at 1 rfl))
  | 74, _ => exact (in_t6 _ (mm_at 3 rfl))
  | 75, _ => exact (in_t6 _ (mm_at 5 rfl))
  | k + 76, h => exact absurd h (by omega)
set_option maxRecDepth 20000 in
theorem tb_X6 : ∀ w ∈ wsX60, w ∈ lw_tbl := by
  intro w hw
  obtain ⟨k, hk, rfl⟩ := List.mem_map.mp hw
  have hk := List.mem_range.mp hk
  match k, hk with
  | 0, _ => exact (in_t1 _ (mm_at 68 rfl))
  | 1, _ => exact (in_t1 _ (mm_at 70 rfl))
  | 2, _ => exact (in_t1 _ (mm_at 72 rfl))
  | 3, _ => exact (in_t1 _ (mm_at 74 rfl))
  | 4, _ => exact (in_t1 _ (mm_at 76 rfl))
  | 5, _ => exact (in_t1 _ (mm_at 78 rfl))
  | 6, _ => exact (in_t1 _ (mm_at 80 rfl))
  | 7, _ => exact (in_t1 _ (mm_at 82 rfl))
  | 8, _ => exact (in_t1 _ (mm_at 84 rfl))
  | 9, _ => exact (in_t1 _ (mm_at 86 rfl))
  | 10, _ => exact (in_t1 _ (mm_at 88 rfl))
  | 11, _ => exact (in_t1 _ (mm_at 90 rfl))
  | 12, _ => exact (in_t1 _ (mm_at 92 rfl))
set_option maxRecDepth 20000 in
theorem tb_X7 : ∀ w ∈ wsX70, w ∈ lw_tbl := by
  intro w hw
  obtain ⟨k, hk, rfl⟩ := List.mem_map.mp hw
  have hk := List.mem_range.mp hk
  match k, hk with
  | 0, _ => exact (in_t1 _ (mm_at 107 rfl))
  | 1, _ => exact (in_t1 _ (mm_at 109 rfl))
  | 2, _ => exact (in_t1 _ (mm_at 111 rfl))
  | 3, _ => exact (in_t1 _ (mm_at 113 rfl))
set_option maxRecDepth 20000 in
theorem tb_X9 : ∀ w ∈ wsX90, w ∈ lw_tbl := by
  intro w hw
  obtain ⟨k, hk, rfl⟩ := List.mem_map.mp hw
  have hk := List.mem_range.mp hk
  match k, hk with
  | 0, _ => exact (in_t1 _ (mm_at 132 rfl))
  | 1, _ => exact (in_t1 _ (mm_at 134 rfl))
  | 2, _ => exact (in_t1 _ (mm_at 136 rfl))
  | 3, _ => exact (in_t1 _ (mm_at 138 rfl))
  | 4, _ => exact (in_t1 _ (mm_at 140 rfl))
set_option maxRecDepth 20000 in
theorem tb_X8 : ∀ w ∈ wsX80, w ∈ lw_tbl := by
  intro w hw
  obtain ⟨k, hk, rfl⟩ := List.mem_map.mp hw
  have hk := List.mem_range.mp hk
  match k, hk with
  | 0, _ => exact (in_t1 _ (mm_at 157 rfl))
  | 1, _ => exact (in_t1 _ (mm_at 159 rfl))
  | 2, _ => exact (in_t1 _ (mm_at 161 rfl))
set_option maxRecDepth 20000 in
theorem tb_X5 : ∀ w ∈ wsX50, w ∈ lw_tbl := by
  intro w hw
  obtain ⟨k, hk, rfl⟩ := List.mem_map.mp hw
  have hk := List.mem_range.mp hk
  match k, hk with
  | 0, _ => exact (in_t1 _ (mm_at 172 rfl))
  | 1, _ => exact (in_t1 _ (mm_at 174 rfl))
set_option maxRecDepth 20000 in
theorem tb_X4 : ∀ w ∈ wsX40, w ∈ lw_tbl := by
  intro w hw
  obtain ⟨k, hk, rfl⟩ := List.mem_map.mp hw
  have hk := List.mem_range.mp hk
  match k, hk with
  | 0, _ => exact (in_t1 _ (mm_at 218 rfl))
  | 1, _ => exact (in_t1 _ (mm_at 220 rfl))
  | 2, _ => exact (in_t1 _ (mm_at 222 rfl))
  | 3, _ => exact (in_t1 _ (mm_at 224 rfl))
  | 4, _ => exact (in_t1 _ (mm_at 226 rfl))
  | 5, _ => exact (in_t1 _ (mm_at 228 rfl))
  | 6, _ => exact (in_t1 _ (mm_at 230 rfl))
  | 7, _ => exact (in_t1 _ (mm_at 232 rfl))
  | 8, _ => exact (in_t1 _ (mm_at 234 rfl))
  | 9, _ => exact (in_t1 _ (mm_at 236 rfl))
  | 10, _ => exact (in_t1 _ (mm_at 238 rfl))
set_option maxRecDepth 20000 in
theorem tb_X2 : ∀ w ∈ wsX20, w ∈ lw_tbl := by
  intro w hw
  obtain ⟨k, hk, rfl⟩ := List.mem_map.mp hw
  have hk := List.mem_range.mp hk
  match k, hk with
  | 0, _ => exact (in_t1 _ (mm_at 194 rfl))
  | 1, _ => exact (in_t1 _ (mm_at 196 rfl))
  | 2, _ => exact (in_t1 _ (mm_at 198 rfl))
set_option maxRecDepth 20000 in
theorem tb_X3 : ∀ w ∈ wsX30, w ∈ lw_tbl := by
  intro w hw
  obtain ⟨k, hk, rfl⟩ := List.mem_map.mp hw
  have hk := List.mem_range.mp hk
  match k, hk with
  | 0, _ => exact (in_t2 _ (mm_at 24 rfl))
  | 1, _ => exact (in_t2 _ (mm_at 26 rfl))
  | 2, _ => exact (in_t2 _ (mm_at 28 rfl))
  | 3, _ => exact (in_t2 _ (mm_at 30 rfl))
  | 4, _ => exact (in_t2 _ (mm_at 32 rfl))
  | 5, _ => exact (in_t2 _ (mm_at 34 rfl))
  | 6, _ => exact (in_t2 _ (mm_at 36 rfl))
  | 7, _ => exact (in_t2 _ (mm_at 38 rfl))
  | 8, _ => exact (in_t2 _ (mm_at 40 rfl))
  | 9, _ => exact (in_t2 _ (mm_at 42 rfl))
  | 10, _ => exact (in_t2 _ (mm_at 44 rfl))
  | 11, _ => exact (in_t2 _ (mm_at 46 rfl))
set_option maxRecDepth 20000 in
theorem tb_X0 : ∀ w ∈ wsX00, w ∈ lw_tbl := by
  intro w hw
  obtain ⟨k, hk, rfl⟩ := List.mem_map.mp hw
  have hk := List.mem_range.mp hk
  match k, hk with
  | 0, _ => exact (in_t2 _ (mm_at 59 rfl))
  | 1, _ => exact (in_t2 _ (mm_at 61 rfl))
set_option maxRecDepth 20000 in
theorem tb_X1 : ∀ w ∈ wsX10, w ∈ lw_tbl := by
  intro w hw
  obtain ⟨k, hk, rfl⟩ := List.mem_map.mp hw
  have hk := List.mem_range.mp hk
  match k, hk with
  | 0, _ => exact (in_t2 _ (mm_at 99 rfl))
  | 1, _ => exact (in_t2 _ (mm_at 101 rfl))
  | 2, _ => exact (in_t2 _ (mm_at 103 rfl))
  | 3, _ => exact (in_t2 _ (mm_at 105 rfl))
  | 4, _ => exact (in_t2 _ (mm_at 107 rfl))
  | 5, _ => exact (in_t2 _ (mm_at 109 rfl))
  | 6, _ => exact (in_t2 _ (mm_at 111 rfl))
  | 7, _ => exact (in_t2 _ (mm_at 113 rfl))
  | 8, _ => exact (in_t2 _ (mm_at 115 rfl))
  | 9, _ => exact (in_t2 _ (mm_at 117 rfl))
  | 10, _ => exact (in_t2 _ (mm_at 119 rfl))
  | 11, _ => exact (in_t2 _ (mm_at 121 rfl))
  | 12, _ => exact (in_t2 _ (mm_at 123 rfl))
theorem law_in : ∀ w ∈ wsL_law, w ∈ lw_tbl := by
  intro w hw
  unfold wsL_law at hw
  simp only [List.mem_append, List.not_mem_nil, or_false, or_assoc] at hw
  rcases hw with h | h | h | h | h | h | h | h | h | h | h | h | h | h | h | h | h | h | h | h | h | h | h | h | h | h | h | h | h | h | h | h | h | h | h | h | h | h | h | h | h | h | h | h | h | h | h | h | h | h | h | h | h | h | h | h | h | h | h | h | h | h
  · exact tb_r1 w h
  · exact tb_r2 w h
  · exact tb_r3 w h
  · exact tb_r4 w h
  · exact tb_r5 w h
  · exact tb_r6 w h
  · exact tb_r7 w h
  · exact tb_r8 w h
  · exact tb_r9 w h
  · exact tb_r10 w h
  · exact tb_r11 w h
  · exact tb_r12 w h
  · exact tb_r13 w h
  · exact tb_r14 w h
  · exact tb_r15 w h
  · exact tb_r16 w h
  · exact tb_r17 w h
  · exact tb_r18 w h
  · exact tb_r19 w h
  · exact tb_r20 w h
  · exact tb_r21 w h
  · exact tb_r22 w h
  · exact tb_r23 w h
  · exact tb_r24 w h
  · exact tb_r25 w h
  · exact tb_r26 w h
  · exact tb_r27 w h
  · exact tb_r28 w h
  · exact tb_r29 w h
  · exact tb_r30 w h
  · exact tb_r31 w h
  · exact tb_r32 w h
  · exact tb_r33 w h
  · exact tb_r34 w h
  · exact tb_r35 w h
  · exact tb_r36 w h
  · exact tb_r37 w h
  · exact tb_r38 w h
  · exact tb_r39 w h
  · exact tb_r40 w h
  · exact tb_r41 w h
  · exact tb_r42 w h
  · exact tb_r43 w h
  · exact tb_r44 w h
  · exact tb_r45 w h
  · exact tb_r46 w h
  · exact tb_r47 w h
  · exact tb_r48 w h
  · exact tb_r49 w h
  · exact tb_r50 w h
  · exact tb_X10 w h
  · exact tb_X11 w h
  · exact tb_X6 w h
  · exact tb_X7 w h
  · exact tb_X9 w h
  · exact tb_X8 w h
  · exact tb_X5 w h
  · exact tb_X4 w h
  · exact tb_X2 w h
  · exact tb_X3 w h
  · exact tb_X0 w h
  · exact tb_X1 w h
