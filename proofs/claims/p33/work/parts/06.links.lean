
/-! ===== what the words say: links of fields, of classes, constants ===== -/
def z_wd : List Cond := lw_tbl.filter goodWord
theorem z_in {w : Cond} (i : Nat) (h : lw_tbl[i]? = some w) (g : goodWord w = true) : w ∈ z_wd := List.mem_filter.mpr ⟨List.mem_of_getElem? h, g⟩
theorem z_good {ws : List Cond} (h : ∀ w ∈ ws, w ∈ z_wd) : GoodIn z_wd ws := fun w hw => ⟨h w hw, good_of_word (List.mem_filter.mp (h w hw)).2⟩
theorem z_in_all {ws : List Cond} (h : ws.all (fun w => decide (w ∈ lw_tbl) && goodWord w) = true) : ∀ w ∈ ws, w ∈ z_wd := fun w hw => by
  have h1 := List.all_eq_true.mp h w hw
  simp only [Bool.and_eq_true, decide_eq_true_eq] at h1
  exact List.mem_filter.mpr h1
/-- the words that aren't kept by their form alone: links within the nest, what may be cast, arrays over a class -/
def z_nkk : Cond → Bool
  | .fieldLinkNest .. => true
  | .methodLinkNest .. => true
  | .castable .. => true
  | .arrayOver (.object _) => true
  | _ => false
def z_nk : List Cond := lw_tbl.filter z_nkk
theorem z_in2 {w : Cond} (i : Nat) (h : lw_tbl[i]? = some w) (g : z_nkk w = true) : w ∈ z_nk := List.mem_filter.mpr ⟨List.mem_of_getElem? h, g⟩
def z_N (U : State) : Prop := (∀ w ∈ z_nk, w.before #[] U = true) ∧ va_Dc U ∧ ∃ mi : Nat, va_Mi "[Ljava/lang/Object;" mi U
theorem z_N.warm {s U : State} (hW : s.WarmedH U.vm) (h : z_N s) : z_N U := by
  refine ⟨fun w hw => ?_, va_Dc.moved hW.alike h.2.1, h.2.2.imp fun mi hm => va_Mi.moved hW.alike hm⟩
  have h1 := h.1 w hw
  have h2 := (List.mem_filter.mp hw).2
  cases w <;> first | exact (Bool.false_ne_true h2).elim | skip
  case fieldLinkNest => exact va_Nw.warmF hW h1
  case methodLinkNest => exact va_Nw.warmM hW h1
  case castable => exact va_Nw.warmC hW h1
  case arrayOver t =>
    cases t <;> first | exact (Bool.false_ne_true h2).elim | exact va_AO.moved hW.alike h1
theorem z_N.same {u U : State} (e : u.vm = U.vm) (h : z_N u) : z_N U := by
  refine ⟨fun w hw => ?_, va_Dc.moved (by rw [e]; exact Vm.Alike.refl _) h.2.1, h.2.2.imp fun mi hm => va_Mi.moved (by rw [e]; exact Vm.Alike.refl _) hm⟩
  have h1 := h.1 w hw
  have h2 := (List.mem_filter.mp hw).2
  cases w <;> first | exact (Bool.false_ne_true h2).elim | skip
  case fieldLinkNest => exact va_Nw.same rfl e h1
  case methodLinkNest => exact va_Nw.same rfl e h1
  case castable => exact va_Nw.same rfl e h1
  case arrayOver t =>
    cases t <;> first | exact (Bool.false_ne_true h2).elim | exact va_AO.moved (by rw [e]; exact Vm.Alike.refl _) h1
theorem z_N.nest {U : State} (h : z_N U) {w : Cond} (hw : w ∈ z_nk) (ht : w.onTables = true) (A : Array Value) : w.before A U = true := va_Nw.use ht (h.1 w hw)
theorem z_N.over {U : State} (h : z_N U) {C : String} (hw : Cond.arrayOver (.object C) ∈ z_nk) (A : Array Value) : (Cond.arrayOver (.object C)).before A U = true := va_AO.use (h.1 _ hw)
/-- a field's link: by which class's pool, which entry, of which class the field which -/
def z_flk (own : String) (i c k : Nat) : Prop := ∃ (C : String) (T : u_T) (N : Nat) (ref : String), z_cl[c]? = some (C, T, N) ∧ k < N ∧ ((∃ host, Cond.fieldLinkNest own i ref (T k).2.1 (T k).2.2.1 host ∈ z_nk) ∨ Cond.fieldLink own i ref (T k).2.1 (T k).2.2.1 ∈ z_wd) ∧ (ref = (T k).1 ∨ Cond.sameField ref (T k).1 (T k).2.1 (T k).2.2.1 ∈ z_wd)
def z_FL : List (String × Nat × Nat × Nat) := [("java/util/ArrayList", 9, 8, 1), ("java/util/ArrayList", 48, 8, 2), ("java/util/AbstractList", 7, 8, 0), ("java/util/ArrayList", 63, 8, 0), ("BoomSorters$Line", 11, 0, 0), ("BoomSorters$Reach", 40, 0, 0), ("BoomSorters$River", 94, 0, 0), ("BoomSorters", 169, 0, 0), ("BoomSorters$Line", 17, 0, 1), ("BoomSorters$Reach", 37, 0, 1), ("BoomSorters$River", 92, 0, 1), ("BoomSorters", 159, 0, 1), ("BoomSorters$Reach", 34, 5, 0), ("BoomSorters$River", 103, 5, 0), ("BoomSorters$Reach", 9, 5, 1), ("BoomSorters$River", 48, 5, 1), ("BoomSorters", 258, 5, 1), ("BoomSorters$Reach", 15, 5, 2), ("BoomSorters", 66, 5, 2), ("BoomSorters$Reach", 18, 5, 3), ("BoomSorters", 61, 5, 3), ("BoomSorters$Reach", 21, 5, 4), ("BoomSorters$River", 86, 5, 4), ("BoomSorters", 261, 5, 4), ("BoomSorters$Reach", 27, 5, 5), ("BoomSorters$River", 89, 5, 5), ("BoomSorters", 264, 5, 5), ("BoomSorters$Reach", 31, 5, 6), ("BoomSorters", 155, 5, 6), ("BoomSorters$River", 156, 5, 6), ("BoomSorters$River", 9, 6, 0), ("BoomSorters", 121, 6, 0), ("BoomSorters$River", 15, 6, 1), ("BoomSorters", 116, 6, 1), ("BoomSorters$River", 21, 6, 2), ("BoomSorters", 69, 6, 2), ("BoomSorters$River", 27, 6, 3), ("BoomSorters", 57, 6, 3), ("BoomSorters$River", 34, 6, 4), ("BoomSorters", 175, 6, 4), ("BoomSorters$River", 38, 6, 5), ("BoomSorters", 226, 6, 5), ("BoomSorters$River", 42, 6, 6), ("BoomSorters", 200, 6, 6), ("BoomSorters$Owner", 7, 3, 0), ("BoomSorters", 51, 3, 0), ("BoomSorters$Owner", 13, 3, 1), ("BoomSorters", 219, 3, 1), ("BoomSorters$Owner", 16, 3, 2), ("BoomSorters", 206, 3, 2), ("BoomSorters$Owner", 19, 3, 3), ("BoomSorters", 255, 3, 3), ("BoomSorters", 12, 7, 0), ("BoomSorters", 16, 7, 1), ("BoomSorters", 21, 7, 2), ("BoomSorters", 28, 7, 3), ("BoomSorters", 32, 7, 4), ("BoomSorters", 35, 7, 5), ("BoomSorters", 39, 7, 6), ("BoomSorters$Log", 30, 1, 0), ("BoomSorters$Line", 21, 1, 0), ("BoomSorters", 103, 1, 0), ("BoomSorters$Order", 22, 1, 1), ("BoomSorters", 84, 1, 1), ("BoomSorters$Log", 48, 1, 1), ("BoomSorters$River", 134, 1, 1), ("BoomSorters$Log", 33, 1, 2), ("BoomSorters$Order", 25, 1, 2), ("BoomSorters$Reach", 52, 1, 2), ("BoomSorters", 87, 1, 2), ("BoomSorters$Log", 36, 1, 3), ("BoomSorters$Reach", 66, 1, 3), ("BoomSorters", 90, 1, 3), ("BoomSorters$River", 97, 1, 3), ("BoomSorters$Log", 45, 1, 4), ("BoomSorters", 93, 1, 4), ("BoomSorters$Log", 9, 1, 5), ("BoomSorters$River", 131, 1, 5), ("BoomSorters", 239, 1, 5), ("BoomSorters$Log", 15, 1, 6), ("BoomSorters$Reach", 55, 1, 6), ("BoomSorters$River", 116, 1, 6), ("BoomSorters", 113, 1, 6), ("BoomSorters$Log", 18, 1, 7), ("BoomSorters$Reach", 44, 1, 7), ("BoomSorters", 96, 1, 7), ("BoomSorters$River", 119, 1, 7), ("BoomSorters$Log", 21, 1, 8), ("BoomSorters$River", 153, 1, 8), ("BoomSorters", 242, 1, 8), ("BoomSorters$Log", 24, 1, 9), ("BoomSorters$River", 125, 1, 9), ("BoomSorters", 348, 1, 9), ("BoomSorters$Log", 27, 1, 10), ("BoomSorters", 354, 1, 10), ("BoomSorters$Order", 7, 2, 0), ("BoomSorters$Order", 13, 2, 1), ("BoomSorters$Order", 16, 2, 2), ("BoomSorters$Order", 19, 2, 3), ("BoomSorters$Raft", 7, 4, 0), ("BoomSorters", 364, 4, 0), ("BoomSorters$Raft", 13, 4, 1), ("BoomSorters", 367, 4, 1), ("BoomSorters$Raft", 17, 4, 2), ("BoomSorters", 357, 4, 2)]
theorem z_fl0 : z_flk "java/util/ArrayList" 9 8 1 := ⟨RJx4a65c, TJx4a65c, 3, "java/util/ArrayList", rfl, by decide, Or.inr (z_in 107 (by decide +kernel) (by decide +kernel)), Or.inl rfl⟩
theorem z_fl1 : z_flk "java/util/ArrayList" 48 8 2 := ⟨RJx4a65c, TJx4a65c, 3, "java/util/ArrayList", rfl, by decide, Or.inr (z_in 108 (by decide +kernel) (by decide +kernel)), Or.inl rfl⟩
theorem z_fl2 : z_flk "java/util/AbstractList" 7 8 0 := ⟨RJx4a65c, TJx4a65c, 3, "java/util/AbstractList", rfl, by decide, Or.inr (z_in 109 (by decide +kernel) (by decide +kernel)), Or.inl rfl⟩
theorem z_fl3 : z_flk "java/util/ArrayList" 63 8 0 := ⟨RJx4a65c, TJx4a65c, 3, "java/util/ArrayList", rfl, by decide, Or.inr (z_in 110 (by decide +kernel) (by decide +kernel)), Or.inr (z_in 111 (by decide +kernel) (by decide +kernel))⟩
theorem z_fl4 : z_flk "BoomSorters$Line" 11 0 0 := ⟨RX0, TX0, 2, "BoomSorters$Line", rfl, by decide, Or.inr (z_in 129 (by decide +kernel) (by decide +kernel)), Or.inl rfl⟩
theorem z_fl5 : z_flk "BoomSorters$Reach" 40 0 0 := ⟨RX0, TX0, 2, "BoomSorters$Line", rfl, by decide, Or.inl ⟨"BoomSorters", z_in2 130 (by decide +kernel) (by decide +kernel)⟩, Or.inl rfl⟩
theorem z_fl6 : z_flk "BoomSorters$River" 94 0 0 := ⟨RX0, TX0, 2, "BoomSorters$Line", rfl, by decide, Or.inl ⟨"BoomSorters", z_in2 131 (by decide +kernel) (by decide +kernel)⟩, Or.inl rfl⟩
theorem z_fl7 : z_flk "BoomSorters" 169 0 0 := ⟨RX0, TX0, 2, "BoomSorters$Line", rfl, by decide, Or.inl ⟨"BoomSorters", z_in2 132 (by decide +kernel) (by decide +kernel)⟩, Or.inl rfl⟩
theorem z_fl8 : z_flk "BoomSorters$Line" 17 0 1 := ⟨RX0, TX0, 2, "BoomSorters$Line", rfl, by decide, Or.inr (z_in 133 (by decide +kernel) (by decide +kernel)), Or.inl rfl⟩
theorem z_fl9 : z_flk "BoomSorters$Reach" 37 0 1 := ⟨RX0, TX0, 2, "BoomSorters$Line", rfl, by decide, Or.inl ⟨"BoomSorters", z_in2 134 (by decide +kernel) (by decide +kernel)⟩, Or.inl rfl⟩
theorem z_fl10 : z_flk "BoomSorters$River" 92 0 1 := ⟨RX0, TX0, 2, "BoomSorters$Line", rfl, by decide, Or.inl ⟨"BoomSorters", z_in2 135 (by decide +kernel) (by decide +kernel)⟩, Or.inl rfl⟩
theorem z_fl11 : z_flk "BoomSorters" 159 0 1 := ⟨RX0, TX0, 2, "BoomSorters$Line", rfl, by decide, Or.inl ⟨"BoomSorters", z_in2 136 (by decide +kernel) (by decide +kernel)⟩, Or.inl rfl⟩
theorem z_fl12 : z_flk "BoomSorters$Reach" 34 5 0 := ⟨RX5, TX5, 7, "BoomSorters$Reach", rfl, by decide, Or.inr (z_in 150 (by decide +kernel) (by decide +kernel)), Or.inl rfl⟩
theorem z_fl13 : z_flk "BoomSorters$River" 103 5 0 := ⟨RX5, TX5, 7, "BoomSorters$Reach", rfl, by decide, Or.inl ⟨"BoomSorters", z_in2 151 (by decide +kernel) (by decide +kernel)⟩, Or.inl rfl⟩
theorem z_fl14 : z_flk "BoomSorters$Reach" 9 5 1 := ⟨RX5, TX5, 7, "BoomSorters$Reach", rfl, by decide, Or.inr (z_in 152 (by decide +kernel) (by decide +kernel)), Or.inl rfl⟩
theorem z_fl15 : z_flk "BoomSorters$River" 48 5 1 := ⟨RX5, TX5, 7, "BoomSorters$Reach", rfl, by decide, Or.inl ⟨"BoomSorters", z_in2 153 (by decide +kernel) (by decide +kernel)⟩, Or.inl rfl⟩
theorem z_fl16 : z_flk "BoomSorters" 258 5 1 := ⟨RX5, TX5, 7, "BoomSorters$Reach", rfl, by decide, Or.inl ⟨"BoomSorters", z_in2 154 (by decide +kernel) (by decide +kernel)⟩, Or.inl rfl⟩
theorem z_fl17 : z_flk "BoomSorters$Reach" 15 5 2 := ⟨RX5, TX5, 7, "BoomSorters$Reach", rfl, by decide, Or.inr (z_in 155 (by decide +kernel) (by decide +kernel)), Or.inl rfl⟩
theorem z_fl18 : z_flk "BoomSorters" 66 5 2 := ⟨RX5, TX5, 7, "BoomSorters$Reach", rfl, by decide, Or.inl ⟨"BoomSorters", z_in2 156 (by decide +kernel) (by decide +kernel)⟩, Or.inl rfl⟩
theorem z_fl19 : z_flk "BoomSorters$Reach" 18 5 3 := ⟨RX5, TX5, 7, "BoomSorters$Reach", rfl, by decide, Or.inr (z_in 157 (by decide +kernel) (by decide +kernel)), Or.inl rfl⟩
theorem z_fl20 : z_flk "BoomSorters" 61 5 3 := ⟨RX5, TX5, 7, "BoomSorters$Reach", rfl, by decide, Or.inl ⟨"BoomSorters", z_in2 158 (by decide +kernel) (by decide +kernel)⟩, Or.inl rfl⟩
theorem z_fl21 : z_flk "BoomSorters$Reach" 21 5 4 := ⟨RX5, TX5, 7, "BoomSorters$Reach", rfl, by decide, Or.inr (z_in 159 (by decide +kernel) (by decide +kernel)), Or.inl rfl⟩
theorem z_fl22 : z_flk "BoomSorters$River" 86 5 4 := ⟨RX5, TX5, 7, "BoomSorters$Reach", rfl, by decide, Or.inl ⟨"BoomSorters", z_in2 160 (by decide +kernel) (by decide +kernel)⟩, Or.inl rfl⟩
theorem z_fl23 : z_flk "BoomSorters" 261 5 4 := ⟨RX5, TX5, 7, "BoomSorters$Reach", rfl, by decide, Or.inl ⟨"BoomSorters", z_in2 161 (by decide +kernel) (by decide +kernel)⟩, Or.inl rfl⟩
theorem z_fl24 : z_flk "BoomSorters$Reach" 27 5 5 := ⟨RX5, TX5, 7, "BoomSorters$Reach", rfl, by decide, Or.inr (z_in 162 (by decide +kernel) (by decide +kernel)), Or.inl rfl⟩
theorem z_fl25 : z_flk "BoomSorters$River" 89 5 5 := ⟨RX5, TX5, 7, "BoomSorters$Reach", rfl, by decide, Or.inl ⟨"BoomSorters", z_in2 163 (by decide +kernel) (by decide +kernel)⟩, Or.inl rfl⟩
theorem z_fl26 : z_flk "BoomSorters" 264 5 5 := ⟨RX5, TX5, 7, "BoomSorters$Reach", rfl, by decide, Or.inl ⟨"BoomSorters", z_in2 164 (by decide +kernel) (by decide +kernel)⟩, Or.inl rfl⟩
theorem z_fl27 : z_flk "BoomSorters$Reach" 31 5 6 := ⟨RX5, TX5, 7, "BoomSorters$Reach", rfl, by decide, Or.inr (z_in 165 (by decide +kernel) (by decide +kernel)), Or.inl rfl⟩
theorem z_fl28 : z_flk "BoomSorters" 155 5 6 := ⟨RX5, TX5, 7, "BoomSorters$Reach", rfl, by decide, Or.inl ⟨"BoomSorters", z_in2 166 (by decide +kernel) (by decide +kernel)⟩, Or.inl rfl⟩
theorem z_fl29 : z_flk "BoomSorters$River" 156 5 6 := ⟨RX5, TX5, 7, "BoomSorters$Reach", rfl, by decide, Or.inl ⟨"BoomSorters", z_in2 167 (by decide +kernel) (by decide +kernel)⟩, Or.inl rfl⟩
theorem z_fl30 : z_flk "BoomSorters$River" 9 6 0 := ⟨RX6, TX6, 7, "BoomSorters$River", rfl, by decide, Or.inr (z_in 183 (by decide +kernel) (by decide +kernel)), Or.inl rfl⟩
theorem z_fl31 : z_flk "BoomSorters" 121 6 0 := ⟨RX6, TX6, 7, "BoomSorters$River", rfl, by decide, Or.inl ⟨"BoomSorters", z_in2 184 (by decide +kernel) (by decide +kernel)⟩, Or.inl rfl⟩
theorem z_fl32 : z_flk "BoomSorters$River" 15 6 1 := ⟨RX6, TX6, 7, "BoomSorters$River", rfl, by decide, Or.inr (z_in 185 (by decide +kernel) (by decide +kernel)), Or.inl rfl⟩
theorem z_fl33 : z_flk "BoomSorters" 116 6 1 := ⟨RX6, TX6, 7, "BoomSorters$River", rfl, by decide, Or.inl ⟨"BoomSorters", z_in2 186 (by decide +kernel) (by decide +kernel)⟩, Or.inl rfl⟩
theorem z_fl34 : z_flk "BoomSorters$River" 21 6 2 := ⟨RX6, TX6, 7, "BoomSorters$River", rfl, by decide, Or.inr (z_in 187 (by decide +kernel) (by decide +kernel)), Or.inl rfl⟩
theorem z_fl35 : z_flk "BoomSorters" 69 6 2 := ⟨RX6, TX6, 7, "BoomSorters$River", rfl, by decide, Or.inl ⟨"BoomSorters", z_in2 188 (by decide +kernel) (by decide +kernel)⟩, Or.inl rfl⟩
theorem z_fl36 : z_flk "BoomSorters$River" 27 6 3 := ⟨RX6, TX6, 7, "BoomSorters$River", rfl, by decide, Or.inr (z_in 189 (by decide +kernel) (by decide +kernel)), Or.inl rfl⟩
theorem z_fl37 : z_flk "BoomSorters" 57 6 3 := ⟨RX6, TX6, 7, "BoomSorters$River", rfl, by decide, Or.inl ⟨"BoomSorters", z_in2 190 (by decide +kernel) (by decide +kernel)⟩, Or.inl rfl⟩
theorem z_fl38 : z_flk "BoomSorters$River" 34 6 4 := ⟨RX6, TX6, 7, "BoomSorters$River", rfl, by decide, Or.inr (z_in 191 (by decide +kernel) (by decide +kernel)), Or.inl rfl⟩
theorem z_fl39 : z_flk "BoomSorters" 175 6 4 := ⟨RX6, TX6, 7, "BoomSorters$River", rfl, by decide, Or.inl ⟨"BoomSorters", z_in2 192 (by decide +kernel) (by decide +kernel)⟩, Or.inl rfl⟩
theorem z_fl40 : z_flk "BoomSorters$River" 38 6 5 := ⟨RX6, TX6, 7, "BoomSorters$River", rfl, by decide, Or.inr (z_in 193 (by decide +kernel) (by decide +kernel)), Or.inl rfl⟩
theorem z_fl41 : z_flk "BoomSorters" 226 6 5 := ⟨RX6, TX6, 7, "BoomSorters$River", rfl, by decide, Or.inl ⟨"BoomSorters", z_in2 194 (by decide +kernel) (by decide +kernel)⟩, Or.inl rfl⟩
theorem z_fl42 : z_flk "BoomSorters$River" 42 6 6 := ⟨RX6, TX6, 7, "BoomSorters$River", rfl, by decide, Or.inr (z_in 195 (by decide +kernel) (by decide +kernel)), Or.inl rfl⟩
theorem z_fl43 : z_flk "BoomSorters" 200 6 6 := ⟨RX6, TX6, 7, "BoomSorters$River", rfl, by decide, Or.inl ⟨"BoomSorters", z_in2 196 (by decide +kernel) (by decide +kernel)⟩, Or.inl rfl⟩
theorem z_fl44 : z_flk "BoomSorters$Owner" 7 3 0 := ⟨RX3, TX3, 4, "BoomSorters$Owner", rfl, by decide, Or.inr (z_in 221 (by decide +kernel) (by decide +kernel)), Or.inl rfl⟩
theorem z_fl45 : z_flk "BoomSorters" 51 3 0 := ⟨RX3, TX3, 4, "BoomSorters$Owner", rfl, by decide, Or.inl ⟨"BoomSorters", z_in2 222 (by decide +kernel) (by decide +kernel)⟩, Or.inl rfl⟩
theorem z_fl46 : z_flk "BoomSorters$Owner" 13 3 1 := ⟨RX3, TX3, 4, "BoomSorters$Owner", rfl, by decide, Or.inr (z_in 223 (by decide +kernel) (by decide +kernel)), Or.inl rfl⟩
theorem z_fl47 : z_flk "BoomSorters" 219 3 1 := ⟨RX3, TX3, 4, "BoomSorters$Owner", rfl, by decide, Or.inl ⟨"BoomSorters", z_in2 224 (by decide +kernel) (by decide +kernel)⟩, Or.inl rfl⟩
theorem z_fl48 : z_flk "BoomSorters$Owner" 16 3 2 := ⟨RX3, TX3, 4, "BoomSorters$Owner", rfl, by decide, Or.inr (z_in 225 (by decide +kernel) (by decide +kernel)), Or.inl rfl⟩
theorem z_fl49 : z_flk "BoomSorters" 206 3 2 := ⟨RX3, TX3, 4, "BoomSorters$Owner", rfl, by decide, Or.inl ⟨"BoomSorters", z_in2 226 (by decide +kernel) (by decide +kernel)⟩, Or.inl rfl⟩
theorem z_fl50 : z_flk "BoomSorters$Owner" 19 3 3 := ⟨RX3, TX3, 4, "BoomSorters$Owner", rfl, by decide, Or.inr (z_in 227 (by decide +kernel) (by decide +kernel)), Or.inl rfl⟩
theorem z_fl51 : z_flk "BoomSorters" 255 3 3 := ⟨RX3, TX3, 4, "BoomSorters$Owner", rfl, by decide, Or.inl ⟨"BoomSorters", z_in2 228 (by decide +kernel) (by decide +kernel)⟩, Or.inl rfl⟩
theorem z_fl52 : z_flk "BoomSorters" 12 7 0 := ⟨RX7, TX7, 7, "BoomSorters", rfl, by decide, Or.inr (z_in 238 (by decide +kernel) (by decide +kernel)), Or.inl rfl⟩
theorem z_fl53 : z_flk "BoomSorters" 16 7 1 := ⟨RX7, TX7, 7, "BoomSorters", rfl, by decide, Or.inr (z_in 239 (by decide +kernel) (by decide +kernel)), Or.inl rfl⟩
theorem z_fl54 : z_flk "BoomSorters" 21 7 2 := ⟨RX7, TX7, 7, "BoomSorters", rfl, by decide, Or.inr (z_in 240 (by decide +kernel) (by decide +kernel)), Or.inl rfl⟩
theorem z_fl55 : z_flk "BoomSorters" 28 7 3 := ⟨RX7, TX7, 7, "BoomSorters", rfl, by decide, Or.inr (z_in 241 (by decide +kernel) (by decide +kernel)), Or.inl rfl⟩
theorem z_fl56 : z_flk "BoomSorters" 32 7 4 := ⟨RX7, TX7, 7, "BoomSorters", rfl, by decide, Or.inr (z_in 242 (by decide +kernel) (by decide +kernel)), Or.inl rfl⟩
theorem z_fl57 : z_flk "BoomSorters" 35 7 5 := ⟨RX7, TX7, 7, "BoomSorters", rfl, by decide, Or.inr (z_in 243 (by decide +kernel) (by decide +kernel)), Or.inl rfl⟩
theorem z_fl58 : z_flk "BoomSorters" 39 7 6 := ⟨RX7, TX7, 7, "BoomSorters", rfl, by decide, Or.inr (z_in 244 (by decide +kernel) (by decide +kernel)), Or.inl rfl⟩
theorem z_fl59 : z_flk "BoomSorters$Log" 30 1 0 := ⟨RX1, TX1, 11, "BoomSorters$Log", rfl, by decide, Or.inr (z_in 401 (by decide +kernel) (by decide +kernel)), Or.inl rfl⟩
theorem z_fl60 : z_flk "BoomSorters$Line" 21 1 0 := ⟨RX1, TX1, 11, "BoomSorters$Log", rfl, by decide, Or.inl ⟨"BoomSorters", z_in2 402 (by decide +kernel) (by decide +kernel)⟩, Or.inl rfl⟩
theorem z_fl61 : z_flk "BoomSorters" 103 1 0 := ⟨RX1, TX1, 11, "BoomSorters$Log", rfl, by decide, Or.inl ⟨"BoomSorters", z_in2 403 (by decide +kernel) (by decide +kernel)⟩, Or.inl rfl⟩
theorem z_fl62 : z_flk "BoomSorters$Order" 22 1 1 := ⟨RX1, TX1, 11, "BoomSorters$Log", rfl, by decide, Or.inl ⟨"BoomSorters", z_in2 404 (by decide +kernel) (by decide +kernel)⟩, Or.inl rfl⟩
theorem z_fl63 : z_flk "BoomSorters" 84 1 1 := ⟨RX1, TX1, 11, "BoomSorters$Log", rfl, by decide, Or.inl ⟨"BoomSorters", z_in2 405 (by decide +kernel) (by decide +kernel)⟩, Or.inl rfl⟩
theorem z_fl64 : z_flk "BoomSorters$Log" 48 1 1 := ⟨RX1, TX1, 11, "BoomSorters$Log", rfl, by decide, Or.inr (z_in 406 (by decide +kernel) (by decide +kernel)), Or.inl rfl⟩
theorem z_fl65 : z_flk "BoomSorters$River" 134 1 1 := ⟨RX1, TX1, 11, "BoomSorters$Log", rfl, by decide, Or.inl ⟨"BoomSorters", z_in2 407 (by decide +kernel) (by decide +kernel)⟩, Or.inl rfl⟩
theorem z_fl66 : z_flk "BoomSorters$Log" 33 1 2 := ⟨RX1, TX1, 11, "BoomSorters$Log", rfl, by decide, Or.inr (z_in 408 (by decide +kernel) (by decide +kernel)), Or.inl rfl⟩
theorem z_fl67 : z_flk "BoomSorters$Order" 25 1 2 := ⟨RX1, TX1, 11, "BoomSorters$Log", rfl, by decide, Or.inl ⟨"BoomSorters", z_in2 409 (by decide +kernel) (by decide +kernel)⟩, Or.inl rfl⟩
theorem z_fl68 : z_flk "BoomSorters$Reach" 52 1 2 := ⟨RX1, TX1, 11, "BoomSorters$Log", rfl, by decide, Or.inl ⟨"BoomSorters", z_in2 410 (by decide +kernel) (by decide +kernel)⟩, Or.inl rfl⟩
theorem z_fl69 : z_flk "BoomSorters" 87 1 2 := ⟨RX1, TX1, 11, "BoomSorters$Log", rfl, by decide, Or.inl ⟨"BoomSorters", z_in2 411 (by decide +kernel) (by decide +kernel)⟩, Or.inl rfl⟩
theorem z_fl70 : z_flk "BoomSorters$Log" 36 1 3 := ⟨RX1, TX1, 11, "BoomSorters$Log", rfl, by decide, Or.inr (z_in 412 (by decide +kernel) (by decide +kernel)), Or.inl rfl⟩
theorem z_fl71 : z_flk "BoomSorters$Reach" 66 1 3 := ⟨RX1, TX1, 11, "BoomSorters$Log", rfl, by decide, Or.inl ⟨"BoomSorters", z_in2 413 (by decide +kernel) (by decide +kernel)⟩, Or.inl rfl⟩
theorem z_fl72 : z_flk "BoomSorters" 90 1 3 := ⟨RX1, TX1, 11, "BoomSorters$Log", rfl, by decide, Or.inl ⟨"BoomSorters", z_in2 414 (by decide +kernel) (by decide +kernel)⟩, Or.inl rfl⟩
theorem z_fl73 : z_flk "BoomSorters$River" 97 1 3 := ⟨RX1, TX1, 11, "BoomSorters$Log", rfl, by decide, Or.inl ⟨"BoomSorters", z_in2 415 (by decide +kernel) (by decide +kernel)⟩, Or.inl rfl⟩
theorem z_fl74 : z_flk "BoomSorters$Log" 45 1 4 := ⟨RX1, TX1, 11, "BoomSorters$Log", rfl, by decide, Or.inr (z_in 416 (by decide +kernel) (by decide +kernel)), Or.inl rfl⟩
theorem z_fl75 : z_flk "BoomSorters" 93 1 4 := ⟨RX1, TX1, 11, "BoomSorters$Log", rfl, by decide, Or.inl ⟨"BoomSorters", z_in2 417 (by decide +kernel) (by decide +kernel)⟩, Or.inl rfl⟩
theorem z_fl76 : z_flk "BoomSorters$Log" 9 1 5 := ⟨RX1, TX1, 11, "BoomSorters$Log", rfl, by decide, Or.inr (z_in 418 (by decide +kernel) (by decide +kernel)), Or.inl rfl⟩
theorem z_fl77 : z_flk "BoomSorters$River" 131 1 5 := ⟨RX1, TX1, 11, "BoomSorters$Log", rfl, by decide, Or.inl ⟨"BoomSorters", z_in2 419 (by decide +kernel) (by decide +kernel)⟩, Or.inl rfl⟩
theorem z_fl78 : z_flk "BoomSorters" 239 1 5 := ⟨RX1, TX1, 11, "BoomSorters$Log", rfl, by decide, Or.inl ⟨"BoomSorters", z_in2 420 (by decide +kernel) (by decide +kernel)⟩, Or.inl rfl⟩
theorem z_fl79 : z_flk "BoomSorters$Log" 15 1 6 := ⟨RX1, TX1, 11, "BoomSorters$Log", rfl, by decide, Or.inr (z_in 421 (by decide +kernel) (by decide +kernel)), Or.inl rfl⟩
theorem z_fl80 : z_flk "BoomSorters$Reach" 55 1 6 := ⟨RX1, TX1, 11, "BoomSorters$Log", rfl, by decide, Or.inl ⟨"BoomSorters", z_in2 422 (by decide +kernel) (by decide +kernel)⟩, Or.inl rfl⟩
theorem z_fl81 : z_flk "BoomSorters$River" 116 1 6 := ⟨RX1, TX1, 11, "BoomSorters$Log", rfl, by decide, Or.inl ⟨"BoomSorters", z_in2 423 (by decide +kernel) (by decide +kernel)⟩, Or.inl rfl⟩
theorem z_fl82 : z_flk "BoomSorters" 113 1 6 := ⟨RX1, TX1, 11, "BoomSorters$Log", rfl, by decide, Or.inl ⟨"BoomSorters", z_in2 424 (by decide +kernel) (by decide +kernel)⟩, Or.inl rfl⟩
theorem z_fl83 : z_flk "BoomSorters$Log" 18 1 7 := ⟨RX1, TX1, 11, "BoomSorters$Log", rfl, by decide, Or.inr (z_in 425 (by decide +kernel) (by decide +kernel)), Or.inl rfl⟩
theorem z_fl84 : z_flk "BoomSorters$Reach" 44 1 7 := ⟨RX1, TX1, 11, "BoomSorters$Log", rfl, by decide, Or.inl ⟨"BoomSorters", z_in2 426 (by decide +kernel) (by decide +kernel)⟩, Or.inl rfl⟩
theorem z_fl85 : z_flk "BoomSorters" 96 1 7 := ⟨RX1, TX1, 11, "BoomSorters$Log", rfl, by decide, Or.inl ⟨"BoomSorters", z_in2 427 (by decide +kernel) (by decide +kernel)⟩, Or.inl rfl⟩
theorem z_fl86 : z_flk "BoomSorters$River" 119 1 7 := ⟨RX1, TX1, 11, "BoomSorters$Log", rfl, by decide, Or.inl ⟨"BoomSorters", z_in2 428 (by decide +kernel) (by decide +kernel)⟩, Or.inl rfl⟩
theorem z_fl87 : z_flk "BoomSorters$Log" 21 1 8 := ⟨RX1, TX1, 11, "BoomSorters$Log", rfl, by decide, Or.inr (z_in 429 (by decide +kernel) (by decide +kernel)), Or.inl rfl⟩
theorem z_fl88 : z_flk "BoomSorters$River" 153 1 8 := ⟨RX1, TX1, 11, "BoomSorters$Log", rfl, by decide, Or.inl ⟨"BoomSorters", z_in2 430 (by decide +kernel) (by decide +kernel)⟩, Or.inl rfl⟩
theorem z_fl89 : z_flk "BoomSorters" 242 1 8 := ⟨RX1, TX1, 11, "BoomSorters$Log", rfl, by decide, Or.inl ⟨"BoomSorters", z_in2 431 (by decide +kernel) (by decide +kernel)⟩, Or.inl rfl⟩
theorem z_fl90 : z_flk "BoomSorters$Log" 24 1 9 := ⟨RX1, TX1, 11, "BoomSorters$Log", rfl, by decide, Or.inr (z_in 432 (by decide +kernel) (by decide +kernel)), Or.inl rfl⟩
theorem z_fl91 : z_flk "BoomSorters$River" 125 1 9 := ⟨RX1, TX1, 11, "BoomSorters$Log", rfl, by decide, Or.inl ⟨"BoomSorters", z_in2 433 (by decide +kernel) (by decide +kernel)⟩, Or.inl rfl⟩
theorem z_fl92 : z_flk "BoomSorters" 348 1 9 := ⟨RX1, TX1, 11, "BoomSorters$Log", rfl, by decide, Or.inl ⟨"BoomSorters", z_in2 434 (by decide +kernel) (by decide +kernel)⟩, Or.inl rfl⟩
theorem z_fl93 : z_flk "BoomSorters$Log" 27 1 10 := ⟨RX1, TX1, 11, "BoomSorters$Log", rfl, by decide, Or.inr (z_in 435 (by decide +kernel) (by decide +kernel)), Or.inl rfl⟩
theorem z_fl94 : z_flk "BoomSorters" 354 1 10 := ⟨RX1, TX1, 11, "BoomSorters$Log", rfl, by decide, Or.inl ⟨"BoomSorters", z_in2 436 (by decide +kernel) (by decide +kernel)⟩, Or.inl rfl⟩
theorem z_fl95 : z_flk "BoomSorters$Order" 7 2 0 := ⟨RX2, TX2, 4, "BoomSorters$Order", rfl, by decide, Or.inr (z_in 533 (by decide +kernel) (by decide +kernel)), Or.inl rfl⟩
theorem z_fl96 : z_flk "BoomSorters$Order" 13 2 1 := ⟨RX2, TX2, 4, "BoomSorters$Order", rfl, by decide, Or.inr (z_in 534 (by decide +kernel) (by decide +kernel)), Or.inl rfl⟩
theorem z_fl97 : z_flk "BoomSorters$Order" 16 2 2 := ⟨RX2, TX2, 4, "BoomSorters$Order", rfl, by decide, Or.inr (z_in 535 (by decide +kernel) (by decide +kernel)), Or.inl rfl⟩
theorem z_fl98 : z_flk "BoomSorters$Order" 19 2 3 := ⟨RX2, TX2, 4, "BoomSorters$Order", rfl, by decide, Or.inr (z_in 536 (by decide +kernel) (by decide +kernel)), Or.inl rfl⟩
theorem z_fl99 : z_flk "BoomSorters$Raft" 7 4 0 := ⟨RX4, TX4, 3, "BoomSorters$Raft", rfl, by decide, Or.inr (z_in 771 (by decide +kernel) (by decide +kernel)), Or.inl rfl⟩
theorem z_fl100 : z_flk "BoomSorters" 364 4 0 := ⟨RX4, TX4, 3, "BoomSorters$Raft", rfl, by decide, Or.inl ⟨"BoomSorters", z_in2 772 (by decide +kernel) (by decide +kernel)⟩, Or.inl rfl⟩
theorem z_fl101 : z_flk "BoomSorters$Raft" 13 4 1 := ⟨RX4, TX4, 3, "BoomSorters$Raft", rfl, by decide, Or.inr (z_in 773 (by decide +kernel) (by decide +kernel)), Or.inl rfl⟩
theorem z_fl102 : z_flk "BoomSorters" 367 4 1 := ⟨RX4, TX4, 3, "BoomSorters$Raft", rfl, by decide, Or.inl ⟨"BoomSorters", z_in2 774 (by decide +kernel) (by decide +kernel)⟩, Or.inl rfl⟩
theorem z_fl103 : z_flk "BoomSorters$Raft" 17 4 2 := ⟨RX4, TX4, 3, "BoomSorters$Raft", rfl, by decide, Or.inr (z_in 775 (by decide +kernel) (by decide +kernel)), Or.inl rfl⟩
theorem z_fl104 : z_flk "BoomSorters" 357 4 2 := ⟨RX4, TX4, 3, "BoomSorters$Raft", rfl, by decide, Or.inl ⟨"BoomSorters", z_in2 776 (by decide +kernel) (by decide +kernel)⟩, Or.inl rfl⟩
theorem z_FL_ok : ∀ q ∈ z_FL, z_flk q.1 q.2.1 q.2.2.1 q.2.2.2 := by
  intro q hq
  simp only [z_FL, List.mem_cons, List.not_mem_nil, or_false] at hq
  rcases hq with rfl | rfl | rfl | rfl | rfl | rfl | rfl | rfl | rfl | rfl | rfl | rfl | rfl | rfl | rfl | rfl | rfl | rfl | rfl | rfl | rfl | rfl | rfl | rfl | rfl | rfl | rfl | rfl | rfl | rfl | rfl | rfl | rfl | rfl | rfl | rfl | rfl | rfl | rfl | rfl | rfl | rfl | rfl | rfl | rfl | rfl | rfl | rfl | rfl | rfl | rfl | rfl | rfl | rfl | rfl | rfl | rfl | rfl | rfl | rfl | rfl | rfl | rfl | rfl | rfl | rfl | rfl | rfl | rfl | rfl | rfl | rfl | rfl | rfl | rfl | rfl | rfl | rfl | rfl | rfl | rfl | rfl | rfl | rfl | rfl | rfl | rfl | rfl | rfl | rfl | rfl | rfl | rfl | rfl | rfl | rfl | rfl | rfl | rfl | rfl | rfl | rfl | rfl | rfl | rfl
  · exact z_fl0
  · exact z_fl1
  · exact z_fl2
  · exact z_fl3
  · exact z_fl4
  · exact z_fl5
  · exact z_fl6
  · exact z_fl7
  · exact z_fl8
  · exact z_fl9
  · exact z_fl10
  · exact z_fl11
  · exact z_fl12
  · exact z_fl13
  · exact z_fl14
  · exact z_fl15
  · exact z_fl16
  · exact z_fl17
  · exact z_fl18
  · exact z_fl19
  · exact z_fl20
  · exact z_fl21
  · exact z_fl22
  · exact z_fl23
  · exact z_fl24
  · exact z_fl25
  · exact z_fl26
  · exact z_fl27
  · exact z_fl28
  · exact z_fl29
  · exact z_fl30
  · exact z_fl31
  · exact z_fl32
  · exact z_fl33
  · exact z_fl34
  · exact z_fl35
  · exact z_fl36
  · exact z_fl37
  · exact z_fl38
  · exact z_fl39
  · exact z_fl40
  · exact z_fl41
  · exact z_fl42
  · exact z_fl43
  · exact z_fl44
  · exact z_fl45
  · exact z_fl46
  · exact z_fl47
  · exact z_fl48
  · exact z_fl49
  · exact z_fl50
  · exact z_fl51
  · exact z_fl52
  · exact z_fl53
  · exact z_fl54
  · exact z_fl55
  · exact z_fl56
  · exact z_fl57
  · exact z_fl58
  · exact z_fl59
  · exact z_fl60
  · exact z_fl61
  · exact z_fl62
  · exact z_fl63
  · exact z_fl64
  · exact z_fl65
  · exact z_fl66
  · exact z_fl67
  · exact z_fl68
  · exact z_fl69
  · exact z_fl70
  · exact z_fl71
  · exact z_fl72
  · exact z_fl73
  · exact z_fl74
  · exact z_fl75
  · exact z_fl76
  · exact z_fl77
  · exact z_fl78
  · exact z_fl79
  · exact z_fl80
  · exact z_fl81
  · exact z_fl82
  · exact z_fl83
  · exact z_fl84
  · exact z_fl85
  · exact z_fl86
  · exact z_fl87
  · exact z_fl88
  · exact z_fl89
  · exact z_fl90
  · exact z_fl91
  · exact z_fl92
  · exact z_fl93
  · exact z_fl94
  · exact z_fl95
  · exact z_fl96
  · exact z_fl97
  · exact z_fl98
  · exact z_fl99
  · exact z_fl100
  · exact z_fl101
  · exact z_fl102
  · exact z_fl103
  · exact z_fl104
theorem z_uw : ∀ (c : Nat) (r : vw_C), z_cl[c]? = some r → ∀ w ∈ u_ws r.1 r.2.1 r.2.2, w ∈ z_wd := by
  intro c r h
  match c, h with
  | 0, h => cases h; exact z_in_all (by decide +kernel)
  | 1, h => cases h; exact z_in_all (by decide +kernel)
  | 2, h => cases h; exact z_in_all (by decide +kernel)
  | 3, h => cases h; exact z_in_all (by decide +kernel)
  | 4, h => cases h; exact z_in_all (by decide +kernel)
  | 5, h => cases h; exact z_in_all (by decide +kernel)
  | 6, h => cases h; exact z_in_all (by decide +kernel)
  | 7, h => cases h; exact z_in_all (by decide +kernel)
  | 8, h => cases h; exact z_in_all (by decide +kernel)
  | n + 9, h => simp [z_cl] at h
theorem z_tyok : ∀ (c : Nat) (r : vw_C), z_cl[c]? = some r → ∀ k, k < r.2.2 → parseFieldDescriptor (r.2.1 k).2.2.1 = some (z_tyc c k) := by
  intro c r h
  match c, h with
  | 0, h => cases h; exact tyX0_ok
  | 1, h => cases h; exact tyX1_ok
  | 2, h => cases h; exact tyX2_ok
  | 3, h => cases h; exact tyX3_ok
  | 4, h => cases h; exact tyX4_ok
  | 5, h => cases h; exact tyX5_ok
  | 6, h => cases h; exact tyX6_ok
  | 7, h => cases h; exact tyX7_ok
  | 8, h => cases h; exact tyJx4a65c_ok
  | n + 9, h => simp [z_cl] at h
theorem z_nmok : ∀ (c : Nat) (r : vw_C), z_cl[c]? = some r → ∀ a, a < r.2.2 → ∀ b, b < r.2.2 → a ≠ b → (r.2.1 a).2.1 ≠ (r.2.1 b).2.1 := by
  intro c r h
  match c, h with
  | 0, h => cases h; exact nmX0
  | 1, h => cases h; exact nmX1
  | 2, h => cases h; exact nmX2
  | 3, h => cases h; exact nmX3
  | 4, h => cases h; exact nmX4
  | 5, h => cases h; exact nmX5
  | 6, h => cases h; exact nmX6
  | 7, h => cases h; exact nmX7
  | 8, h => cases h; exact nmJx4a65c
  | n + 9, h => simp [z_cl] at h

/-- the field's type: int just where z_k says so, else a reference -/
theorem z_tyk : ∀ (c : Nat) (r : vw_C), z_cl[c]? = some r → ∀ k, k < r.2.2 → (z_k c k = true ∧ z_tyc c k = .int) ∨ (z_k c k = false ∧ ((∃ C, z_tyc c k = .object C) ∨ ∃ t, z_tyc c k = .array t)) := by
  intro c r h k hk
  match c, h with
  | 0, h =>
    cases h
    match k, hk with
    | 0, _ => first | exact Or.inl ⟨rfl, rfl⟩ | exact Or.inr ⟨rfl, Or.inl ⟨_, rfl⟩⟩ | exact Or.inr ⟨rfl, Or.inr ⟨_, rfl⟩⟩
    | 1, _ => first | exact Or.inl ⟨rfl, rfl⟩ | exact Or.inr ⟨rfl, Or.inl ⟨_, rfl⟩⟩ | exact Or.inr ⟨rfl, Or.inr ⟨_, rfl⟩⟩
    | n + 2, h2 => exact absurd h2 (by simp)
  | 1, h =>
    cases h
    match k, hk with
    | 0, _ => first | exact Or.inl ⟨rfl, rfl⟩ | exact Or.inr ⟨rfl, Or.inl ⟨_, rfl⟩⟩ | exact Or.inr ⟨rfl, Or.inr ⟨_, rfl⟩⟩
    | 1, _ => first | exact Or.inl ⟨rfl, rfl⟩ | exact Or.inr ⟨rfl, Or.inl ⟨_, rfl⟩⟩ | exact Or.inr ⟨rfl, Or.inr ⟨_, rfl⟩⟩
    | 2, _ => first | exact Or.inl ⟨rfl, rfl⟩ | exact Or.inr ⟨rfl, Or.inl ⟨_, rfl⟩⟩ | exact Or.inr ⟨rfl, Or.inr ⟨_, rfl⟩⟩
    | 3, _ => first | exact Or.inl ⟨rfl, rfl⟩ | exact Or.inr ⟨rfl, Or.inl ⟨_, rfl⟩⟩ | exact Or.inr ⟨rfl, Or.inr ⟨_, rfl⟩⟩
    | 4, _ => first | exact Or.inl ⟨rfl, rfl⟩ | exact Or.inr ⟨rfl, Or.inl ⟨_, rfl⟩⟩ | exact Or.inr ⟨rfl, Or.inr ⟨_, rfl⟩⟩
    | 5, _ => first | exact Or.inl ⟨rfl, rfl⟩ | exact Or.inr ⟨rfl, Or.inl ⟨_, rfl⟩⟩ | exact Or.inr ⟨rfl, Or.inr ⟨_, rfl⟩⟩
    | 6, _ => first | exact Or.inl ⟨rfl, rfl⟩ | exact Or.inr ⟨rfl, Or.inl ⟨_, rfl⟩⟩ | exact Or.inr ⟨rfl, Or.inr ⟨_, rfl⟩⟩
    | 7, _ => first | exact Or.inl ⟨rfl, rfl⟩ | exact Or.inr ⟨rfl, Or.inl ⟨_, rfl⟩⟩ | exact Or.inr ⟨rfl, Or.inr ⟨_, rfl⟩⟩
    | 8, _ => first | exact Or.inl ⟨rfl, rfl⟩ | exact Or.inr ⟨rfl, Or.inl ⟨_, rfl⟩⟩ | exact Or.inr ⟨rfl, Or.inr ⟨_, rfl⟩⟩
    | 9, _ => first | exact Or.inl ⟨rfl, rfl⟩ | exact Or.inr ⟨rfl, Or.inl ⟨_, rfl⟩⟩ | exact Or.inr ⟨rfl, Or.inr ⟨_, rfl⟩⟩
    | 10, _ => first | exact Or.inl ⟨rfl, rfl⟩ | exact Or.inr ⟨rfl, Or.inl ⟨_, rfl⟩⟩ | exact Or.inr ⟨rfl, Or.inr ⟨_, rfl⟩⟩
    | n + 11, h2 => exact absurd h2 (by simp)
  | 2, h =>
    cases h
    match k, hk with
    | 0, _ => first | exact Or.inl ⟨rfl, rfl⟩ | exact Or.inr ⟨rfl, Or.inl ⟨_, rfl⟩⟩ | exact Or.inr ⟨rfl, Or.inr ⟨_, rfl⟩⟩
    | 1, _ => first | exact Or.inl ⟨rfl, rfl⟩ | exact Or.inr ⟨rfl, Or.inl ⟨_, rfl⟩⟩ | exact Or.inr ⟨rfl, Or.inr ⟨_, rfl⟩⟩
    | 2, _ => first | exact Or.inl ⟨rfl, rfl⟩ | exact Or.inr ⟨rfl, Or.inl ⟨_, rfl⟩⟩ | exact Or.inr ⟨rfl, Or.inr ⟨_, rfl⟩⟩
    | 3, _ => first | exact Or.inl ⟨rfl, rfl⟩ | exact Or.inr ⟨rfl, Or.inl ⟨_, rfl⟩⟩ | exact Or.inr ⟨rfl, Or.inr ⟨_, rfl⟩⟩
    | n + 4, h2 => exact absurd h2 (by simp)
  | 3, h =>
    cases h
    match k, hk with
    | 0, _ => first | exact Or.inl ⟨rfl, rfl⟩ | exact Or.inr ⟨rfl, Or.inl ⟨_, rfl⟩⟩ | exact Or.inr ⟨rfl, Or.inr ⟨_, rfl⟩⟩
    | 1, _ => first | exact Or.inl ⟨rfl, rfl⟩ | exact Or.inr ⟨rfl, Or.inl ⟨_, rfl⟩⟩ | exact Or.inr ⟨rfl, Or.inr ⟨_, rfl⟩⟩
    | 2, _ => first | exact Or.inl ⟨rfl, rfl⟩ | exact Or.inr ⟨rfl, Or.inl ⟨_, rfl⟩⟩ | exact Or.inr ⟨rfl, Or.inr ⟨_, rfl⟩⟩
    | 3, _ => first | exact Or.inl ⟨rfl, rfl⟩ | exact Or.inr ⟨rfl, Or.inl ⟨_, rfl⟩⟩ | exact Or.inr ⟨rfl, Or.inr ⟨_, rfl⟩⟩
    | n + 4, h2 => exact absurd h2 (by simp)
  | 4, h =>
    cases h
    match k, hk with
    | 0, _ => first | exact Or.inl ⟨rfl, rfl⟩ | exact Or.inr ⟨rfl, Or.inl ⟨_, rfl⟩⟩ | exact Or.inr ⟨rfl, Or.inr ⟨_, rfl⟩⟩
    | 1, _ => first | exact Or.inl ⟨rfl, rfl⟩ | exact Or.inr ⟨rfl, Or.inl ⟨_, rfl⟩⟩ | exact Or.inr ⟨rfl, Or.inr ⟨_, rfl⟩⟩
    | 2, _ => first | exact Or.inl ⟨rfl, rfl⟩ | exact Or.inr ⟨rfl, Or.inl ⟨_, rfl⟩⟩ | exact Or.inr ⟨rfl, Or.inr ⟨_, rfl⟩⟩
    | n + 3, h2 => exact absurd h2 (by simp)
  | 5, h =>
    cases h
    match k, hk with
    | 0, _ => first | exact Or.inl ⟨rfl, rfl⟩ | exact Or.inr ⟨rfl, Or.inl ⟨_, rfl⟩⟩ | exact Or.inr ⟨rfl, Or.inr ⟨_, rfl⟩⟩
    | 1, _ => first | exact Or.inl ⟨rfl, rfl⟩ | exact Or.inr ⟨rfl, Or.inl ⟨_, rfl⟩⟩ | exact Or.inr ⟨rfl, Or.inr ⟨_, rfl⟩⟩
    | 2, _ => first | exact Or.inl ⟨rfl, rfl⟩ | exact Or.inr ⟨rfl, Or.inl ⟨_, rfl⟩⟩ | exact Or.inr ⟨rfl, Or.inr ⟨_, rfl⟩⟩
    | 3, _ => first | exact Or.inl ⟨rfl, rfl⟩ | exact Or.inr ⟨rfl, Or.inl ⟨_, rfl⟩⟩ | exact Or.inr ⟨rfl, Or.inr ⟨_, rfl⟩⟩
    | 4, _ => first | exact Or.inl ⟨rfl, rfl⟩ | exact Or.inr ⟨rfl, Or.inl ⟨_, rfl⟩⟩ | exact Or.inr ⟨rfl, Or.inr ⟨_, rfl⟩⟩
    | 5, _ => first | exact Or.inl ⟨rfl, rfl⟩ | exact Or.inr ⟨rfl, Or.inl ⟨_, rfl⟩⟩ | exact Or.inr ⟨rfl, Or.inr ⟨_, rfl⟩⟩
    | 6, _ => first | exact Or.inl ⟨rfl, rfl⟩ | exact Or.inr ⟨rfl, Or.inl ⟨_, rfl⟩⟩ | exact Or.inr ⟨rfl, Or.inr ⟨_, rfl⟩⟩
    | n + 7, h2 => exact absurd h2 (by simp)
  | 6, h =>
    cases h
    match k, hk with
    | 0, _ => first | exact Or.inl ⟨rfl, rfl⟩ | exact Or.inr ⟨rfl, Or.inl ⟨_, rfl⟩⟩ | exact Or.inr ⟨rfl, Or.inr ⟨_, rfl⟩⟩
    | 1, _ => first | exact Or.inl ⟨rfl, rfl⟩ | exact Or.inr ⟨rfl, Or.inl ⟨_, rfl⟩⟩ | exact Or.inr ⟨rfl, Or.inr ⟨_, rfl⟩⟩
    | 2, _ => first | exact Or.inl ⟨rfl, rfl⟩ | exact Or.inr ⟨rfl, Or.inl ⟨_, rfl⟩⟩ | exact Or.inr ⟨rfl, Or.inr ⟨_, rfl⟩⟩
    | 3, _ => first | exact Or.inl ⟨rfl, rfl⟩ | exact Or.inr ⟨rfl, Or.inl ⟨_, rfl⟩⟩ | exact Or.inr ⟨rfl, Or.inr ⟨_, rfl⟩⟩
    | 4, _ => first | exact Or.inl ⟨rfl, rfl⟩ | exact Or.inr ⟨rfl, Or.inl ⟨_, rfl⟩⟩ | exact Or.inr ⟨rfl, Or.inr ⟨_, rfl⟩⟩
    | 5, _ => first | exact Or.inl ⟨rfl, rfl⟩ | exact Or.inr ⟨rfl, Or.inl ⟨_, rfl⟩⟩ | exact Or.inr ⟨rfl, Or.inr ⟨_, rfl⟩⟩
    | 6, _ => first | exact Or.inl ⟨rfl, rfl⟩ | exact Or.inr ⟨rfl, Or.inl ⟨_, rfl⟩⟩ | exact Or.inr ⟨rfl, Or.inr ⟨_, rfl⟩⟩
    | n + 7, h2 => exact absurd h2 (by simp)
  | 7, h =>
    cases h
    match k, hk with
    | 0, _ => first | exact Or.inl ⟨rfl, rfl⟩ | exact Or.inr ⟨rfl, Or.inl ⟨_, rfl⟩⟩ | exact Or.inr ⟨rfl, Or.inr ⟨_, rfl⟩⟩
    | 1, _ => first | exact Or.inl ⟨rfl, rfl⟩ | exact Or.inr ⟨rfl, Or.inl ⟨_, rfl⟩⟩ | exact Or.inr ⟨rfl, Or.inr ⟨_, rfl⟩⟩
    | 2, _ => first | exact Or.inl ⟨rfl, rfl⟩ | exact Or.inr ⟨rfl, Or.inl ⟨_, rfl⟩⟩ | exact Or.inr ⟨rfl, Or.inr ⟨_, rfl⟩⟩
    | 3, _ => first | exact Or.inl ⟨rfl, rfl⟩ | exact Or.inr ⟨rfl, Or.inl ⟨_, rfl⟩⟩ | exact Or.inr ⟨rfl, Or.inr ⟨_, rfl⟩⟩
    | 4, _ => first | exact Or.inl ⟨rfl, rfl⟩ | exact Or.inr ⟨rfl, Or.inl ⟨_, rfl⟩⟩ | exact Or.inr ⟨rfl, Or.inr ⟨_, rfl⟩⟩
    | 5, _ => first | exact Or.inl ⟨rfl, rfl⟩ | exact Or.inr ⟨rfl, Or.inl ⟨_, rfl⟩⟩ | exact Or.inr ⟨rfl, Or.inr ⟨_, rfl⟩⟩
    | 6, _ => first | exact Or.inl ⟨rfl, rfl⟩ | exact Or.inr ⟨rfl, Or.inl ⟨_, rfl⟩⟩ | exact Or.inr ⟨rfl, Or.inr ⟨_, rfl⟩⟩
    | n + 7, h2 => exact absurd h2 (by simp)
  | 8, h =>
    cases h
    match k, hk with
    | 0, _ => first | exact Or.inl ⟨rfl, rfl⟩ | exact Or.inr ⟨rfl, Or.inl ⟨_, rfl⟩⟩ | exact Or.inr ⟨rfl, Or.inr ⟨_, rfl⟩⟩
    | 1, _ => first | exact Or.inl ⟨rfl, rfl⟩ | exact Or.inr ⟨rfl, Or.inl ⟨_, rfl⟩⟩ | exact Or.inr ⟨rfl, Or.inr ⟨_, rfl⟩⟩
    | 2, _ => first | exact Or.inl ⟨rfl, rfl⟩ | exact Or.inr ⟨rfl, Or.inl ⟨_, rfl⟩⟩ | exact Or.inr ⟨rfl, Or.inr ⟨_, rfl⟩⟩
    | n + 3, h2 => exact absurd h2 (by simp)
  | n + 9, h => simp [z_cl] at h
/-- a class's link: the pool's class, the entry, the class -/
def z_clk (own : String) (i c : Nat) : Prop := ∃ (C : String) (T : u_T) (N : Nat), z_cl[c]? = some (C, T, N) ∧ Cond.classLink own i C ∈ z_wd
def z_CL : List (String × Nat × Nat) := [("BoomSortersLaw", 9, 7), ("BoomSorters", 9, 6), ("BoomSorters$River", 18, 8), ("BoomSorters$River", 25, 5), ("BoomSorters$River", 31, 0), ("BoomSorters$Line", 9, 1), ("BoomSorters$Reach", 24, 0), ("BoomSorters", 19, 3), ("BoomSorters", 25, 8), ("BoomSorters", 80, 1), ("BoomSorters", 119, 2), ("BoomSorters$River", 77, 1), ("BoomSorters", 234, 4)]
theorem z_cl0 : z_clk "BoomSortersLaw" 9 7 := ⟨RX7, TX7, 7, rfl, z_in 79 (by decide +kernel) (by decide +kernel)⟩
theorem z_cl1 : z_clk "BoomSorters" 9 6 := ⟨RX6, TX6, 7, rfl, z_in 87 (by decide +kernel) (by decide +kernel)⟩
theorem z_cl2 : z_clk "BoomSorters$River" 18 8 := ⟨RJx4a65c, TJx4a65c, 3, rfl, z_in 93 (by decide +kernel) (by decide +kernel)⟩
theorem z_cl3 : z_clk "BoomSorters$River" 25 5 := ⟨RX5, TX5, 7, rfl, z_in 119 (by decide +kernel) (by decide +kernel)⟩
theorem z_cl4 : z_clk "BoomSorters$River" 31 0 := ⟨RX0, TX0, 2, rfl, z_in 121 (by decide +kernel) (by decide +kernel)⟩
theorem z_cl5 : z_clk "BoomSorters$Line" 9 1 := ⟨RX1, TX1, 11, rfl, z_in 127 (by decide +kernel) (by decide +kernel)⟩
theorem z_cl6 : z_clk "BoomSorters$Reach" 24 0 := ⟨RX0, TX0, 2, rfl, z_in 148 (by decide +kernel) (by decide +kernel)⟩
theorem z_cl7 : z_clk "BoomSorters" 19 3 := ⟨RX3, TX3, 4, rfl, z_in 212 (by decide +kernel) (by decide +kernel)⟩
theorem z_cl8 : z_clk "BoomSorters" 25 8 := ⟨RJx4a65c, TJx4a65c, 3, rfl, z_in 214 (by decide +kernel) (by decide +kernel)⟩
theorem z_cl9 : z_clk "BoomSorters" 80 1 := ⟨RX1, TX1, 11, rfl, z_in 395 (by decide +kernel) (by decide +kernel)⟩
theorem z_cl10 : z_clk "BoomSorters" 119 2 := ⟨RX2, TX2, 4, rfl, z_in 527 (by decide +kernel) (by decide +kernel)⟩
theorem z_cl11 : z_clk "BoomSorters$River" 77 1 := ⟨RX1, TX1, 11, rfl, z_in 631 (by decide +kernel) (by decide +kernel)⟩
theorem z_cl12 : z_clk "BoomSorters" 234 4 := ⟨RX4, TX4, 3, rfl, z_in 657 (by decide +kernel) (by decide +kernel)⟩
theorem z_CL_ok : ∀ q ∈ z_CL, z_clk q.1 q.2.1 q.2.2 := by
  intro q hq
  simp only [z_CL, List.mem_cons, List.not_mem_nil, or_false] at hq
  rcases hq with rfl | rfl | rfl | rfl | rfl | rfl | rfl | rfl | rfl | rfl | rfl | rfl | rfl
  · exact z_cl0
  · exact z_cl1
  · exact z_cl2
  · exact z_cl3
  · exact z_cl4
  · exact z_cl5
  · exact z_cl6
  · exact z_cl7
  · exact z_cl8
  · exact z_cl9
  · exact z_cl10
  · exact z_cl11
  · exact z_cl12
/-- classes that can be made -/
def z_mk (c N : Nat) : Prop := ∃ (C : String) (T : u_T), z_cl[c]? = some (C, T, N) ∧ Cond.instantiable C N ∈ z_wd ∧ Cond.initialized C ∈ z_wd
def z_MK : List (Nat × Nat) := [(0, 2), (1, 11), (2, 4), (3, 4), (4, 3), (5, 7), (6, 7), (7, 7), (8, 3)]
theorem z_mk0 : z_mk 0 2 := ⟨RX0, TX0, rfl, z_in 122 (by decide +kernel) (by decide +kernel), z_in 59 (by decide +kernel) (by decide +kernel)⟩
theorem z_mk1 : z_mk 1 11 := ⟨RX1, TX1, rfl, z_in 396 (by decide +kernel) (by decide +kernel), z_in 70 (by decide +kernel) (by decide +kernel)⟩
theorem z_mk2 : z_mk 2 4 := ⟨RX2, TX2, rfl, z_in 528 (by decide +kernel) (by decide +kernel), z_in 75 (by decide +kernel) (by decide +kernel)⟩
theorem z_mk3 : z_mk 3 4 := ⟨RX3, TX3, rfl, z_in 216 (by decide +kernel) (by decide +kernel), z_in 61 (by decide +kernel) (by decide +kernel)⟩
theorem z_mk4 : z_mk 4 3 := ⟨RX4, TX4, rfl, z_in 766 (by decide +kernel) (by decide +kernel), z_in 76 (by decide +kernel) (by decide +kernel)⟩
theorem z_mk5 : z_mk 5 7 := ⟨RX5, TX5, rfl, z_in 143 (by decide +kernel) (by decide +kernel), z_in 60 (by decide +kernel) (by decide +kernel)⟩
theorem z_mk6 : z_mk 6 7 := ⟨RX6, TX6, rfl, z_in 88 (by decide +kernel) (by decide +kernel), z_in 55 (by decide +kernel) (by decide +kernel)⟩
theorem z_mk7 : z_mk 7 7 := ⟨RX7, TX7, rfl, z_in 80 (by decide +kernel) (by decide +kernel), z_in 54 (by decide +kernel) (by decide +kernel)⟩
theorem z_mk8 : z_mk 8 3 := ⟨RJx4a65c, TJx4a65c, rfl, z_in 94 (by decide +kernel) (by decide +kernel), z_in 58 (by decide +kernel) (by decide +kernel)⟩
theorem z_MK_ok : ∀ q ∈ z_MK, z_mk q.1 q.2 := by
  intro q hq
  simp only [z_MK, List.mem_cons, List.not_mem_nil, or_false] at hq
  rcases hq with rfl | rfl | rfl | rfl | rfl | rfl | rfl | rfl | rfl
  · exact z_mk0
  · exact z_mk1
  · exact z_mk2
  · exact z_mk3
  · exact z_mk4
  · exact z_mk5
  · exact z_mk6
  · exact z_mk7
  · exact z_mk8
def z_anc : Nat → String := fun t => match t with
  | 21 => "BoomSorters$Log"
  | 22 => "BoomSorters$Reach"
  | 23 => "BoomSorters$Line"
  | 24 => "BoomSorters$Owner"
  | _ => "java/lang/Object"
/-- an array of references that can be made: the pool's class, the entry, the kind -/
def z_alk (own : String) (i t : Nat) : Prop := 21 ≤ t ∧ t ≤ 25 ∧ Cond.classLink own i (z_anc t) ∈ z_wd ∧ Cond.arrayOver (.object (z_anc t)) ∈ z_nk
def z_AL : List (String × Nat × Nat) := [("BoomSorters$River", 25, 22), ("BoomSorters$River", 31, 23), ("BoomSorters$Line", 9, 21), ("BoomSorters$Reach", 24, 23), ("BoomSorters", 19, 24), ("BoomSorters", 80, 21), ("java/util/Arrays", 2, 25), ("java/util/ArrayList", 7, 25), ("BoomSorters$River", 77, 21)]
theorem z_al0 : z_alk "BoomSorters$River" 25 22 := ⟨by decide, by decide, z_in 119 (by decide +kernel) (by decide +kernel), z_in2 120 (by decide +kernel) (by decide +kernel)⟩
theorem z_al1 : z_alk "BoomSorters$River" 31 23 := ⟨by decide, by decide, z_in 121 (by decide +kernel) (by decide +kernel), z_in2 142 (by decide +kernel) (by decide +kernel)⟩
theorem z_al2 : z_alk "BoomSorters$Line" 9 21 := ⟨by decide, by decide, z_in 127 (by decide +kernel) (by decide +kernel), z_in2 128 (by decide +kernel) (by decide +kernel)⟩
theorem z_al3 : z_alk "BoomSorters$Reach" 24 23 := ⟨by decide, by decide, z_in 148 (by decide +kernel) (by decide +kernel), z_in2 142 (by decide +kernel) (by decide +kernel)⟩
theorem z_al4 : z_alk "BoomSorters" 19 24 := ⟨by decide, by decide, z_in 212 (by decide +kernel) (by decide +kernel), z_in2 213 (by decide +kernel) (by decide +kernel)⟩
theorem z_al5 : z_alk "BoomSorters" 80 21 := ⟨by decide, by decide, z_in 395 (by decide +kernel) (by decide +kernel), z_in2 128 (by decide +kernel) (by decide +kernel)⟩
theorem z_al6 : z_alk "java/util/Arrays" 2 25 := ⟨by decide, by decide, z_in 510 (by decide +kernel) (by decide +kernel), z_in2 509 (by decide +kernel) (by decide +kernel)⟩
theorem z_al7 : z_alk "java/util/ArrayList" 7 25 := ⟨by decide, by decide, z_in 518 (by decide +kernel) (by decide +kernel), z_in2 509 (by decide +kernel) (by decide +kernel)⟩
theorem z_al8 : z_alk "BoomSorters$River" 77 21 := ⟨by decide, by decide, z_in 631 (by decide +kernel) (by decide +kernel), z_in2 128 (by decide +kernel) (by decide +kernel)⟩
theorem z_AL_ok : ∀ q ∈ z_AL, z_alk q.1 q.2.1 q.2.2 := by
  intro q hq
  simp only [z_AL, List.mem_cons, List.not_mem_nil, or_false] at hq
  rcases hq with rfl | rfl | rfl | rfl | rfl | rfl | rfl | rfl | rfl
  · exact z_al0
  · exact z_al1
  · exact z_al2
  · exact z_al3
  · exact z_al4
  · exact z_al5
  · exact z_al6
  · exact z_al7
  · exact z_al8
def z_KI : List (String × Nat × Nat) := [("jdk/internal/util/ArraysSupport", 200, 2147483639), ("BoomSortersLaw", 7, 2147483647), ("BoomSortersLaw", 8, 790386105)]
theorem z_KI_ok : ∀ q ∈ z_KI, Cond.constant q.1 q.2.1 (Int32.ofNat q.2.2) ∈ z_wd := by
  intro q hq
  simp only [z_KI, List.mem_cons, List.not_mem_nil, or_false] at hq
  rcases hq with rfl | rfl | rfl
  · exact z_in 482 (by decide +kernel) (by decide +kernel)
  · exact z_in 901 (by decide +kernel) (by decide +kernel)
  · exact z_in 905 (by decide +kernel) (by decide +kernel)
def z_KL : List (String × Nat × Nat) := [("BoomSorters", 297, 58191), ("BoomSorters", 299, 31), ("java/lang/Math", 135, 9223372036854775807)]
theorem z_KL_ok : ∀ q ∈ z_KL, Cond.constantLong q.1 q.2.1 (Int64.ofNat q.2.2) ∈ z_wd := by
  intro q hq
  simp only [z_KL, List.mem_cons, List.not_mem_nil, or_false] at hq
  rcases hq with rfl | rfl | rfl
  · exact z_in 836 (by decide +kernel) (by decide +kernel)
  · exact z_in 837 (by decide +kernel) (by decide +kernel)
  · exact z_in 924 (by decide +kernel) (by decide +kernel)
def z_KD : List (String × Nat × Nat) := [("BoomSortersLaw", 121, 4547007122018943789)]
theorem z_KD_ok : ∀ q ∈ z_KD, Cond.constantDouble q.1 q.2.1 (UInt64.ofNat q.2.2) ∈ z_wd := by
  intro q hq
  simp only [z_KD, List.mem_cons, List.not_mem_nil, or_false] at hq
  rcases hq with rfl
  · exact z_in 928 (by decide +kernel) (by decide +kernel)
theorem z_stat : Cond.fieldLink "java/util/ArrayList" 39 "java/util/ArrayList" "DEFAULTCAPACITY_EMPTY_ELEMENTDATA" "[Ljava/lang/Object;" ∈ z_wd := z_in 105 (by decide +kernel) (by decide +kernel)
theorem z_arrInt : Cond.arrayClass .int ∈ z_wd := z_in 929 (by decide +kernel) (by decide +kernel)
theorem z_obj0 : Cond.castable RX0 "java/lang/Object" ∈ z_nk := z_in2 934 (by decide +kernel) (by decide +kernel)
theorem z_obj1 : Cond.castable RX1 "java/lang/Object" ∈ z_nk := z_in2 933 (by decide +kernel) (by decide +kernel)
theorem z_obj2 : Cond.castable RX2 "java/lang/Object" ∈ z_nk := z_in2 942 (by decide +kernel) (by decide +kernel)
theorem z_obj3 : Cond.castable RX3 "java/lang/Object" ∈ z_nk := z_in2 935 (by decide +kernel) (by decide +kernel)
theorem z_obj4 : Cond.castable RX4 "java/lang/Object" ∈ z_nk := z_in2 943 (by decide +kernel) (by decide +kernel)
theorem z_obj5 : Cond.castable RX5 "java/lang/Object" ∈ z_nk := z_in2 932 (by decide +kernel) (by decide +kernel)
theorem z_obj6 : Cond.castable RX6 "java/lang/Object" ∈ z_nk := z_in2 937 (by decide +kernel) (by decide +kernel)
theorem z_obj7 : Cond.castable RX7 "java/lang/Object" ∈ z_nk := z_in2 936 (by decide +kernel) (by decide +kernel)
theorem z_obj8 : Cond.castable RJx4a65c "java/lang/Object" ∈ z_nk := z_in2 938 (by decide +kernel) (by decide +kernel)
