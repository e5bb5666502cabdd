/-! ===== the start: what the Statement gives of it ===== -/
theorem l_len {args : Array Value} {first s : State} {o : Option Outcome} {idx : List Nat} {t : Term} {v : Value} (h : (Term.length t).eval args first o idx s = some v) : ∃ a cell, t.eval args first o idx s = some (.ref a) ∧ s.arrayAt? a = some cell ∧ v = .int cell.slots.size.toInt32 ∧ cell.slots.size < 2147483648 := by
  simp only [Term.eval, Option.bind_eq_bind] at h
  cases ht : t.eval args first o idx s with
  | none => simp [ht] at h
  | some x =>
    cases x <;> simp [ht] at h
    case ref a =>
      obtain ⟨cell, hcell, h⟩ := Option.bind_eq_some_iff.mp h
      by_cases hn : cell.slots.size < 2147483648
      · rw [if_pos hn] at h; cases h; exact ⟨a, cell, rfl, hcell, rfl, hn⟩
      · rw [if_neg hn] at h; cases h
theorem l_len0 {args : Array Value} {s : State} {t : Term} (h : (Cond.eq (.length t) (.int 0)).before args s = true) : ∃ a cell, t.eval args s none [] s = some (.ref a) ∧ s.arrayAt? a = some cell ∧ cell.slots.size = 0 := by
  cases hv : (Term.length t).eval args s none [] s with
  | none => simp [Cond.before, Cond.holds, Cond.value, hv] at h
  | some w =>
    obtain ⟨a, cell, h1, h2, h3, h4⟩ := l_len hv
    subst h3
    refine ⟨a, cell, h1, h2, ?_⟩
    have hz := Cond.eq_ints (first := s) (o := none) (idx := []) hv (show (Term.int 0).eval args s none [] s = some (.int 0) from rfl)
    have hd : cell.slots.size.toInt32 = 0 := by
      simpa [Cond.before, Cond.holds, hz] using h
    exact (nI_eq (a := cell.slots.size) (b := 0) (by omega) (by decide)).mp hd
theorem l_arrI {s : State} {cI : ClassId} {k : Class} {comp : ClassId} {ty : FieldType} (hk : s.vm.classes[cI]? = some k) (hkind : k.kind = .array comp ty) : ArrOfT s cI ty := fun n z => ⟨fun q h => (by cases h), k, hk, comp, hkind⟩
theorem l_arrO {args : Array Value} {s : State} {C : String} (h : (Cond.arrayOver (.object C)).before args s = true) : ∃ cI : ClassId, ArrOfT s cI (.object C) ∧ va_RA s cI (.object C) := by
  obtain ⟨comp, cI, k, h1, h2, h3, h4, h5⟩ := Cond.arrayOver_spec h
  exact ⟨cI, l_arrI h3 h4, k, comp, h3, h4, h1, h5⟩
theorem l_nk {args : Array Value} {s : State} (hts : ∀ w ∈ lw_tbl, w.before args s = true) : ∀ w ∈ z_nk, w.before #[] s = true := by
  intro w hw
  obtain ⟨h1, h2⟩ := List.mem_filter.mp hw
  have h3 := hts w h1
  cases w <;> first | exact (Bool.false_ne_true h2).elim | exact va_any rfl h3 | skip
  case arrayOver t =>
    cases t <;> first | exact (Bool.false_ne_true h2).elim | exact va_AO.of h3
/-- the state at the start: the script, ArrayList's empty row -/
def l_s0 (b E L z : Nat) (xs : Nat → Int32) : bS := (fun a => if a = E then 32 else if a = b then 31 else 0, fun _ _ _ => 0, fun _ _ _ => none, fun a => if a = b then L else 0, fun _ j => xs j, fun _ _ => none, z)
section LS0
variable {b E L z : Nat} {xs : Nat → Int32}
theorem l_s0_t (a : Nat) : z_t (l_s0 b E L z xs) a = if a = E then 32 else if a = b then 31 else 0 := (rfl)
theorem l_s0_n (a : Nat) : z_n (l_s0 b E L z xs) a = if a = b then L else 0 := (rfl)
theorem l_s0_a (a j : Nat) : z_a (l_s0 b E L z xs) a j = xs j := (rfl)
theorem l_s0_z : z_z (l_s0 b E L z xs) = z := (rfl)
theorem l_s0_32 {a : Nat} (h : z_t (l_s0 b E L z xs) a = 32) : a = E := by
  rw [l_s0_t] at h
  by_cases e : a = E
  · exact e
  · rw [if_neg e] at h
    split at h <;> exact absurd h (by decide)
theorem l_s0_env (hb : b < z) (hE : E < z) : v_env (l_s0 b E L z xs) := by
  refine ⟨fun a ha => ?_, fun a c h1 h2 => (l_s0_32 h1).trans (l_s0_32 h2).symm⟩
  rw [l_s0_t] at ha
  rw [l_s0_z]
  by_cases e : a = E
  · rw [e]; exact hE
  · rw [if_neg e] at ha
    by_cases e2 : a = b
    · rw [e2]; exact hb
    · rw [if_neg e2] at ha
      exact absurd rfl ha
theorem l_s0_e0 (h : E ≠ b) : v_e0 (l_s0 b E L z xs) := by
  refine ⟨⟨E, by rw [l_s0_t, if_pos rfl]⟩, fun a ha => ?_⟩
  rw [l_s0_32 ha, l_s0_n, if_neg h]
theorem l_s0_scr (h : E ≠ b) (hL : L < 100000) : d_scr (l_s0 b E L z xs) b L xs := ⟨Or.inr (by rw [l_s0_t, if_neg (Ne.symm h), if_pos rfl]), by rw [l_s0_n, if_pos rfl], hL, fun i _ => rfl⟩
end LS0
/-! THE CLAIM OUT OF ONE WALK OF THE LAW'S BODY. Your part is whole_start (and what it stands on); all else here is the same for every law, but numbers. -/
def R_law : String := "BoomSortersLaw"
def lw_P (b : Addr) (xs : List Int32) (args : Array Value) (s : State) : Prop := args = #[.ref b] ∧ s.IntsAt b xs ∧ xs.length ≤ 260 ∧ (Jvm.Cond.and given_1 narrow_1).before args s = true
/-- what a walk over the start with the record d0 says of its end, said of the start itself -/
theorem lw_closed {s t : State} {o : Outcome} {d0 : Drawn} {L : List Loc} {k n : Nat} (hd0 : s.drawn.sameBut d0 lw_cs) (hv : ∃ v, o = .returned v) (hW : (s.setDrawn d0).WarmedH t.vm) (hs : (s.setDrawn d0).sameButNew ({ t with vm := s.vm } : State) L k n) : State.butDraws s t lw_cs (fun t1 => Framed s o t1 L k n) := by
  have h2 : t.drawn = d0 := congrArg State.drawn hs.1
  refine ⟨⟨hv, hW, State.sameButNew.setDrawn hs s.drawn⟩, ?_, by decide⟩
  rw [h2]
  exact hd0
def lw_Q (_ : Array Value) (s : State) (o : Outcome) (t : State) : Prop := o = .returned (some (.int 1)) ∧ State.butDraws s t lw_cs (fun t1 => Framed s o t1 [] 600086 7301442)
def lw_Z (below : List Frame) (a : Array Value) (s : State) : State → Prop := fun t => ∃ o, t.status = .running ∧ Ended t below o ∧ lw_Q a s o t
/-- the law's own end, with 1 on the stack, nothing written that was there before, its room as the claim has it; d0: the record of draws at this point (at the entry s.drawn: begin with 'refine W.base ?_' and 'have hd0 := Drawn.sameBut.refl s.drawn lw_cs') -/
theorem lw_ret {p : Program} {l : Launch} {e : Env} {s : State} {m : MethodId} {below : List Frame} {meth : Method} {c : Code} {b : Nat} {d0 : Drawn} (hd0 : s.drawn.sameBut d0 lw_cs) (hx : p.tables.exec = Jvm.exec) (hb : c.code = code) (hr : meth.sig.returnType = ret) (hlocks : meth.locks = false) {pc : Nat} {H : Heap} {ls : Array Slot} (hdg : decode code pc = .ok (.ireturn, 1)) : W p l e room_1 (s.setDrawn d0) m #[Value.ref b] below meth c H [] 600086 7301442 (lw_Z below #[Value.ref b] s) (F0 m pc ls [.int 1]) := by
  intro T hT X
  obtain ⟨fs, hret, hrun, hended, hW, hframe⟩ := X.leave (v := some (.int 1)) (hlocks := hlocks) (fun h => by rw [hr] at h; cases h)
  have hmeth' : T.vm.method? m = some meth := X.method'
  refine ⟨T.setFrames fs, ?_, .returned (some (.int 1)), hrun, hended, rfl, lw_closed hd0 ⟨_, rfl⟩ hW hframe⟩
  jvm_step X.here [X.here.top, hx, hb, hdg, hmeth', hr, ret, narrow_b1]
  (try refine ⟨rfl, ?_⟩); (try refine ⟨rfl, ?_⟩)
  first | (intro acts; rw [hret _ acts rfl rfl rfl]) | rw [hret _ _ rfl rfl rfl]
  exact Steps.refl _
/-- what holds at the law's entry: the machine, the code, the tables' words (any of lw_tbl by 'hts w (by decide +kernel)'), the script of L ints xs at the cell b, what the Statement gives of the start (any of its parts by flat_of_before) -/
def lw_At (p : Program) (s : State) (m : MethodId) (meth : Method) (c : Code) (b L : Nat) (xs : Nat → Int32) : Prop :=
  p.tables.exec = Jvm.exec ∧ c.code = code ∧ meth.sig.returnType = ret ∧ c.maxLocals = 22 ∧ s.vm.findClass R_law = some m.cls ∧ (∀ w ∈ lw_tbl, w.before #[Value.ref b] s = true) ∧ va_X b L xs s s.heap ∧ b < s.heap.size ∧ meth.locks = false ∧ (Jvm.Cond.and given_1 narrow_1).before #[Value.ref b] s = true
-- ===== YOUR PART BEGINS =====
/-- YOUR PART: from the entry, for every script of at most 260 ints, the law comes to its end with true ('hflags': the launch's flags, for a law that throws: no stack traces) -/
theorem whole_start {p : Program} {e : Env} {s : State} {m : MethodId} {below : List Frame} {meth : Method} {c : Code} (l : Launch) (hflags : l.flags = flags0) {b L : Nat} {xs : Nat → Int32} (hL : L ≤ 260) (C0 : lw_At p s m meth c b L xs) : W p l e room_1 s m #[Value.ref b] below meth c s.heap [] 0 0 (lw_Z below #[Value.ref b] s) (entryFrame m ([Value.ref b] : List Value).toArray 22) := by
  obtain ⟨hx, hb, hr, hml, hown, hts, hX, hbl, hlocks, hgv⟩ := id C0
  have hs := flat_of_before _ hgv
  have htw : ∀ w ∈ z_wd, w.before #[Value.ref b] s = true := fun w hw => hts w (List.mem_filter.mp hw).1
  -- ArrayList's empty row
  have hE2 : (Cond.arrayOf (.static "java/util/ArrayList" "DEFAULTCAPACITY_EMPTY_ELEMENTDATA" "[Ljava/lang/Object;") (.object "java/lang/Object")).before #[Value.ref b] s = true := hs _ (by decide +kernel)
  have hE4 : (Cond.eq (.length (.static "java/util/ArrayList" "DEFAULTCAPACITY_EMPTY_ELEMENTDATA" "[Ljava/lang/Object;")) (.int 0)).before #[Value.ref b] s = true := hs _ (by decide +kernel)
  obtain ⟨E, cellE, e1, e2, e3⟩ := l_len0 hE4
  obtain ⟨f1, -, -, -⟩ := State.arrayAt?_spec e2
  obtain ⟨hEarr, -⟩ := Cond.arrayOf_spec hE2 e1 f1
  have hEl : E < s.heap.size := (Array.getElem?_eq_some_iff.mp f1).1
  obtain ⟨scr, x1, x2, x3, x4, x5⟩ := id hX
  have hEb : E ≠ b := by
    rintro rfl
    obtain rfl : scr = cellE := Option.some.inj (x1.symm.trans f1)
    obtain ⟨-, k1, hk1, c1, y1⟩ := x2
    obtain ⟨-, k2, hk2, c2, y2⟩ := hEarr
    obtain rfl : k1 = k2 := Option.some.inj (hk1.symm.trans hk2)
    rw [y1] at y2
    cases y2
  -- classes of arrays
  obtain ⟨cI, kI, compI, i1, i2, i3⟩ := Cond.arrayClass_spec (htw _ z_arrInt)
  obtain ⟨cL, l1, l2⟩ := l_arrO (hts (.arrayOver (.object "BoomSorters$Log")) (by decide +kernel))
  obtain ⟨cR, r1, r2⟩ := l_arrO (hts (.arrayOver (.object "BoomSorters$Reach")) (by decide +kernel))
  obtain ⟨cN, n1, n2⟩ := l_arrO (hts (.arrayOver (.object "BoomSorters$Line")) (by decide +kernel))
  obtain ⟨cW, w1, w2⟩ := l_arrO (hts (.arrayOver (.object "BoomSorters$Owner")) (by decide +kernel))
  obtain ⟨cO, o1, o2⟩ := l_arrO (hts (.arrayOver (.object "java/lang/Object")) (by decide +kernel))
  obtain ⟨cA, a20, a21, a22, a23, a24, a25, a30, a31, a99⟩ : ∃ cA : Nat → ClassId, cA 20 = cI ∧ cA 21 = cL ∧ cA 22 = cR ∧ cA 23 = cN ∧ cA 24 = cW ∧ cA 25 = cO ∧ cA 30 = scr.cls ∧ cA 31 = cellE.cls ∧ cA 99 = E := ⟨fun k => if k = 20 then cI else if k = 21 then cL else if k = 22 then cR else if k = 23 then cN else if k = 24 then cW else if k = 25 then cO else if k = 30 then scr.cls else if k = 31 then cellE.cls else E, rfl, rfl, rfl, rfl, rfl, rfl, rfl, rfl, rfl⟩
  -- classes of objects
  have hKn : ∀ c : Nat, ∃ q : ClassId × (Nat → Nat), ∀ r : vw_C, z_cl[c]? = some r → u_Kn s r.1 r.2.1 r.2.2 q.1 q.2 := by
    intro c
    by_cases hc : c < 9
    · have hm : ∃ N, (c, N) ∈ z_MK := by
        match c, hc with
        | 0, _ => exact ⟨2, by decide⟩
        | 1, _ => exact ⟨11, by decide⟩
        | 2, _ => exact ⟨4, by decide⟩
        | 3, _ => exact ⟨4, by decide⟩
        | 4, _ => exact ⟨3, by decide⟩
        | 5, _ => exact ⟨7, by decide⟩
        | 6, _ => exact ⟨7, by decide⟩
        | 7, _ => exact ⟨7, by decide⟩
        | 8, _ => exact ⟨3, by decide⟩
        | n + 9, z => omega
      obtain ⟨N, hm⟩ := hm
      obtain ⟨C, T, h1, h2, -⟩ := z_MK_ok _ hm
      obtain ⟨cC, iS, hk⟩ := u_known htw (z_uw c _ h1) (htw _ h2)
      refine ⟨(cC, iS), fun r hr => ?_⟩
      rw [h1] at hr
      cases hr
      exact hk
    · refine ⟨(0, fun _ => 0), fun r hr => ?_⟩
      have := (List.getElem?_eq_some_iff.mp hr).1
      simp [z_cl] at this
      omega
  have hK : va_K (fun c => (Classical.choose (hKn c)).1, fun c => (Classical.choose (hKn c)).2) z_cl (z_tys cA) s := by
    refine ⟨fun c r hr => Classical.choose_spec (hKn c) r hr, fun k q hq => ?_⟩
    match k, hq with
    | 0, hq => cases hq; rw [a20]; exact ⟨l_arrI i2 i3, i1⟩
    | 1, hq => cases hq; rw [a21]; exact ⟨l1, l2⟩
    | 2, hq => cases hq; rw [a22]; exact ⟨r1, r2⟩
    | 3, hq => cases hq; rw [a23]; exact ⟨n1, n2⟩
    | 4, hq => cases hq; rw [a24]; exact ⟨w1, w2⟩
    | 5, hq => cases hq; rw [a25]; exact ⟨o1, o2⟩
    | n + 6, hq => simp [z_tys] at hq
  generalize ((fun c => (Classical.choose (hKn c)).1, fun c => (Classical.choose (hKn c)).2) : va_G) = D at hK
  have hN : z_N s := ⟨l_nk hts, va_Dc.of (hts (.declares ⟨"java/lang/Object", "getClass", "()Ljava/lang/Class;"⟩) (by decide +kernel)), va_Mi.of (hs (.isRef (.mirror "[Ljava/lang/Object;")) (by decide +kernel))⟩
  have hNA : z_NA cA s := by
    obtain ⟨-, k1, hk1, c1, y1⟩ := x2
    obtain ⟨-, k2, hk2, c2, y2⟩ := hEarr
    unfold z_NA
    rw [a30, a31]
    exact ⟨l_arrI hk1 y1, l_arrI hk2 y2⟩
  have hZs : z_Zs cA s.heap.size s s.heap := by
    refine ⟨va_Zof (hts (.laysStatic "java/util/ArrayList" "DEFAULTCAPACITY_EMPTY_ELEMENTDATA" "[Ljava/lang/Object;") (by decide +kernel)) (hts (.initialized "java/util/ArrayList") (by decide +kernel)) ?_ (fun a ha => Nat.not_le.mpr ha), hNA⟩
    rw [a99]
    exact e1
  have X : z_Cx p s m #[Value.ref b] meth c code 22 D cA s.heap.size s.heap R_law false := ⟨hx, hb, hml, hown, htw, hN, hK, Nat.le_refl _, (fun h => by cases h), hZs⟩
  have hok : z_ok D cA s.heap.size (l_s0 b E L s.heap.size xs) s.heap := by
    refine ⟨rfl, fun a q hq => ?_, fun a h1 h2 h3 => ?_, (l_s0_env hbl hEl).1, by rw [a99, l_s0_t, if_pos rfl], fun a ha => ?_⟩
    · unfold z_e at hq
      rw [l_s0_t] at hq
      by_cases z1 : a = E
      · rw [if_pos z1] at hq
        cases hq
      · rw [if_neg z1] at hq
        by_cases z2 : a = b
        · rw [if_pos z2] at hq
          cases hq
        · rw [if_neg z2] at hq
          cases hq
    · rw [l_s0_t] at h1 h2 h3
      by_cases z1 : a = E
      · rw [if_pos z1] at h3
        exact absurd rfl h3
      · rw [if_neg z1] at h1 h2
        by_cases z2 : a = b
        · rw [if_pos z2] at h2
          exact absurd rfl h2
        · rw [if_neg z2] at h1
          exact absurd rfl h1
    · by_cases z1 : a = E
      · subst z1
        have ht : z_t (l_s0 b a L s.heap.size xs) a = 32 := by rw [l_s0_t, if_pos rfl]
        refine ⟨cellE, f1, ?_, hEarr.1, fun z => ?_, ?_, fun j z => ?_⟩
        · rw [ht]
          exact a31.symm
        · rw [ht] at z
          exact absurd z (by decide)
        · rw [l_s0_n, if_neg hEb, e3]
        · rw [ht] at z
          exact absurd z (by decide)
      · have z2 : a = b := by
          rw [l_s0_t, if_neg z1] at ha
          by_cases z2 : a = b
          · exact z2
          · rw [if_neg z2] at ha
            rcases ha with e | e <;> exact absurd e (by decide)
        subst z2
        have ht : z_t (l_s0 a E L s.heap.size xs) a = 31 := by rw [l_s0_t, if_neg z1, if_pos rfl]
        refine ⟨scr, x1, ?_, x2.1, fun _ => x3, ?_, fun j _ hj => ?_⟩
        · rw [ht]
          exact a30.symm
        · rw [l_s0_n, if_pos rfl, x4]
        · rw [l_s0_n, if_pos rfl] at hj
          exact x5 j hj
  have hret : z_RetOK p l e room_1 s m #[Value.ref b] below meth c (lw_Z below #[Value.ref b] s) D cA s.heap.size s.heap code 2 l_po := by
    intro i v pc ls σ H locs cells slots hi hd hpo hok2 hS
    obtain ⟨rfl, hc1, hc2⟩ := hpo
    rcases hi with ⟨rfl, -, x, hx1, hx2⟩ | ⟨-, h, -⟩ | ⟨-, h, -⟩ | ⟨-, h, -⟩ | ⟨-, h, -⟩
    · refine va_forget (fun q hq => hS.2.2 q hq) ?_
      refine W.widen hc1 hc2 ?_
      exact lw_ret (d0 := s.drawn) (Drawn.sameBut.refl s.drawn lw_cs) hx hb hr hlocks hd
    · exact absurd h (by decide)
    · exact absurd h (by decide)
    · exact absurd h (by decide)
    · exact absurd h (by decide)
  have hKK : l_K (z_Sem p l e room_1 s m #[Value.ref b] below meth c (lw_Z below #[Value.ref b] s) 22 D cA s.heap.size s.heap) xs L := fun ω => z_Cl_Sem X oL_law (kL_law l ω xs L) hret
  have hl := lv_entry ([.ref b]) (n := 22) (Nat.le_of_ble_eq_true rfl)
  rw [lg_entry_eq]
  generalize (lg_sl ([.ref b]) ++ List.replicate (22 - (lg_sl ([.ref b])).length) Slot.unset).toArray = ls at hl ⊢
  have hl : lv_has ls 22 [(0, .ref b)] := hl
  exact l_start hKK (l_s0_env hbl hEl) (l_s0_e0 hEb) (l_s0_scr hEb (by omega)) s.heap ls [] hok hl va_S.rf
-- ===== YOUR PART ENDS =====
set_option maxHeartbeats 4000000 in
theorem lw_walk (l : Launch) (hflags : l.flags = flags0) (b : Addr) (xs : List Int32) : MetFree l x (headSpec (Jvm.Cond.code x code maxLocals ret :: tables_1) room_1) (lw_P b xs) (fun _ _ _ _ _ => True) lw_Q := by
  refine MetFree.of_bodyS (code := code) (maxLocals := maxLocals) (ret := ret) (by decide) ?_ ?_
  · intro args s m h hn
    obtain ⟨meth, c, h1, h2, h3, h4, h5, h6, -, -⟩ := Cond.code_spec hn (atoms_spec (ws := Jvm.Cond.code x code maxLocals ret :: tables_1) h _ List.mem_cons_self)
    exact ⟨meth, c, h1, h2, h3, h4, h5, h6⟩
  · intro p e s m args below meth c s₁ B hml0 hP _
    obtain ⟨rfl, hx, hbd, hgv⟩ := hP
    obtain ⟨scr, harrAt, hlist, hof, hsmall⟩ := hx
    obtain ⟨hcb, hkn, -, -⟩ := State.arrayAt?_spec harrAt
    have hown : s.vm.findClass R_law = some m.cls := findClass_of_methodNamed B.named
    have hts0 : ∀ c ∈ (Jvm.Cond.code x code maxLocals ret :: tables_1), c.before #[Value.ref b] s = true := atoms_spec (ws := Jvm.Cond.code x code maxLocals ret :: tables_1) B.pre
    have hts : ∀ w ∈ lw_tbl, w.before #[Value.ref b] s = true := k2_hts_sels lw_privs (fun w hw => hts0 w (List.mem_cons_of_mem _ hw)) lw_privs_ok
    have hml : c.maxLocals = 22 := B.maxLocals_eq (hts0 _ List.mem_cons_self)
    have X₀ : Stand p l e room_1 s m #[Value.ref b] below meth c s₁ [] 0 0 := Stand.of_body B
    have hh0 : s₁.heap = s.heap := by rw [B.state]; rfl
    have hsz : scr.slots.size = xs.length := by rw [← Array.length_toList, hlist, List.length_map]
    have hval : ∀ j : Nat, j < xs.length → scr.slots[j]? = some (.int (xs.getD j 0)) := fun j hj => by
      rw [← Array.getElem?_toList, hlist]
      simp [hj]
    have hbl : b < s.heap.size := (Array.getElem?_eq_some_iff.mp hcb).1
    have hX : va_X b xs.length (fun j => xs.getD j 0) s s.heap := ⟨scr, hcb, hof, hkn, hsz, hval⟩
    have K : W p l e room_1 s m #[Value.ref b] below meth c s₁.heap [] 0 0 (lw_Z below #[Value.ref b] s) (entryFrame m ([Value.ref b] : List Value).toArray 22) := by
      rw [hh0]
      exact whole_start l hflags hbd ⟨B.exec, B.bytes, B.returns, hml, hown, hts, hX, hbl, B.notSynchronized, hgv⟩
    obtain ⟨t, a1, o, b1, b2, b3⟩ := K s₁ rfl X₀
    exact ⟨t, o, a1, b1, b2, b3⟩
theorem lw_pre_spec {args : Array Value} {s : State} (h : (Jvm.Cond.and given_1 narrow_1).before args s = true) (hr : rest_1_c.before args s = true) : ∃ (b : Addr) (xs : List Int32), lw_P b xs args s := by
  have hs := flat_of_before _ h
  have hq := flat_of_before _ hr
  have hc : (Cond.count 1).before args s = true := hs _ (by decide +kernel)
  have harr : (Cond.arrayOf (.arg 0) .int).before args s = true := hs _ (by decide +kernel)
  have hle : (Cond.le (.length (.arg 0)) (.int 260)).before args s = true := hs _ (by decide +kernel)
  have hlen : (Cond.isInt (.length (.arg 0))).before args s = true := hq _ (by decide +kernel)
  have hall : (Cond.all (.arg 0) (.isInt (.elem (.arg 0) (.index 0)))).before args s = true := hq _ (by decide +kernel)
  obtain ⟨b, xs, hb, hx⟩ := State.ints_of_pre rfl harr hlen hall
  have hsm : xs.length < 2 ^ 31 := hx.choose_spec.2.2.2
  have hev : (Term.length (.arg 0)).eval args s none [] s = some (.int xs.length.toInt32) := hx.length_eval hb
  have hv := Cond.le_ints hev (show (Term.int 260).eval args s none [] s = some (.int 260) from rfl)
  have hd : xs.length.toInt32 ≤ 260 := by
    simpa [Cond.before, Cond.holds, hv] using hle
  have hN : xs.length ≤ 260 := (Int32.ofNat_le_ofNat hsm (by decide)).mp (show Int32.ofNat xs.length ≤ Int32.ofNat 260 from hd)
  exact ⟨b, xs, Cond.one_arg hc (show args[0]? = some (.ref b) from hb), hx, hN, h⟩
theorem lw_comes (l : Launch) (hflags : l.flags = flags0) : Comes l x (Jvm.Cond.code x code maxLocals ret :: tables_1) room_1 (fun tb e args s => Calls_1 tb e args s ∧ rest_1 tb e args s ∧ Pre_1 tb e args s)
    (fun _ _ args s o t => lw_Q args s o t) := by
  intro p e ha hc hk s m args below hf hfit hheap happ hpre
  obtain ⟨b, xs, hP⟩ := lw_pre_spec hpre.2.2 hpre.2.1
  obtain ⟨k, o, h1, h2, h3, hQ⟩ := lw_walk l hflags b xs p e ha hc hk s m args below hf ((Spec.applies_iff_loose hf).mp happ).1 hP trivial
  exact ⟨k, o, h1, h2, h3, hQ⟩
theorem lw_frame {s t : State} {o : Outcome} {args : Array Value} (h : State.butDraws s t lw_cs (fun t1 => Framed s o t1 [] 600086 7301442)) :
    State.butDraws s t [Jvm.Choice.named "NaN.bits", Jvm.Choice.named "NaN.copy"] (fun t1 => Framed s o t1 (fieldLocs frame_1_writes args s ++ arrayLocs frame_1_arrays args s ++ staticLocs frame_1_statics s) 600086 7301442) := h
theorem lw_limb (L : Cond) (hL : ∀ (args : Array Value) (s t : State), L.after args s (.returned (some (.int 1))) t = true) :
    ArmFor flags0 classFile x code maxLocals ret World_1 tables_1 room_1 Calls_1 rest_1 Pre_1
      (fun tb e a s o t => postC L tb e a s o t ∧ State.butDraws s t [Jvm.Choice.named "NaN.bits", Jvm.Choice.named "NaN.copy"] (fun t1 => Framed s o t1 (fieldLocs frame_1_writes a s ++ arrayLocs frame_1_arrays a s ++ staticLocs frame_1_statics s) 600086 7301442)) := by
  intro l hflags _ _ p e ha hc hk s m args below hf hfit hheap happ hpre
  obtain ⟨k, o, h1, h2, h3, rfl, hF⟩ := lw_comes l hflags p e ha hc hk s m args below hf hfit hheap happ hpre
  exact ⟨k, _, h1, h2, h3, hL args s _, lw_frame hF⟩
theorem i_vc : Claimed_1_1 ∧ Claimed_1_2 := ⟨lw_limb limb_1_1 (fun args s t => by simp [limb_1_1, Cond.after, Cond.holds, Cond.value]), lw_limb limb_1_2 (fun args s t => Cond.after_iff.mpr (by
  first | (rw [show limb_1_2 = Cond.eq .result (.int 1) from rfl, Cond.eq_ints (x := 1) (y := 1) rfl rfl]; simp; done) | (simp [limb_1_2, Cond.value, Term.eval]; done)))⟩
