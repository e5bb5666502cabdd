
/-! ===== contracts ===== -/
def z_Pc (D : va_G) (cA : Nat → ClassId) (B : Nat) (as : List Value) (σ : bS) : Array Value → State → Prop := fun v U => v = as.toArray ∧ z_ok D cA B σ U.heap ∧ va_K D z_cl (z_tys cA) U ∧ z_N U ∧ B ≤ U.heap.size ∧ z_Zs cA B U U.heap
def z_Qc (D : va_G) (cA : Nat → ClassId) (B : Nat) (K : Option Value → bS → Prop) : Array Value → State → Outcome → State → Prop := fun _ st o t => ∃ (r : Option Value) (σ' : bS), o = .returned r ∧ K r σ' ∧ z_ok D cA B σ' t.heap ∧ va_F (fun q => B ≤ q) st t
/-- a method's contract: from every state with PT it returns, and K holds of its answer and the state behind it -/
def z_Ct (l : Launch) (y : MethodName) (cc : ByteArray) (maxL : Nat) (ret : Option FieldType) (rm : Room) (PT : zPT) (mc ms : Nat) : Prop :=
  ∀ (D : va_G) (cA : Nat → ClassId) (B : Nat) (as : List Value) (σ : bS) (K : Option Value → bS → Prop), PT as σ K → Met l y (Cond.code y cc maxL ret :: z_wd) rm (z_Pc D cA B as σ) (z_Qc D cA B K) mc ms (fun q => B ≤ q)
theorem z_Ct.weaken {l : Launch} {y : MethodName} {cc : ByteArray} {maxL : Nat} {ret : Option FieldType} {rm : Room} {PT PT' : zPT} {mc ms : Nat} (h : z_Ct l y cc maxL ret rm PT mc ms) (hp : ∀ as σ K, PT' as σ K → PT as σ K) : z_Ct l y cc maxL ret rm PT' mc ms := fun D cA B as σ K h1 => h D cA B as σ K (hp as σ K h1)
theorem z_Pc_blind {D : va_G} {cA : Nat → ClassId} {B : Nat} {as : List Value} {σ : bS} : FrameBlind (z_Pc D cA B as σ) := fun a U g mk q => by
  obtain ⟨q0, q1, q2, q3, q4, q5⟩ := q
  exact ⟨q0, q1, va_K.moved (u := U) (U := U.calling g mk a) (Vm.Alike.refl U.vm) q2, z_N.same (u := U) (U := U.calling g mk a) rfl q3, q4, z_Zs.moved (s := U) (U := U.calling g mk a) (Vm.Alike.refl U.vm) q5⟩
def z_rk (ret : Option FieldType) (rk : Nat) : Prop := (rk = 0 ∧ ret = none) ∨ (rk = 1 ∧ ret = some .int) ∨ (rk = 2 ∧ ret = some .boolean) ∨ (rk = 3 ∧ ret = some .long) ∨ (rk = 4 ∧ ret = some .double) ∨ (rk = 5 ∧ ((∃ C, ret = some (.object C)) ∨ ∃ t, ret = some (.array t)))
section ZC1
variable {p : Program} {l : Launch} {e : Env} {R : Room} {s : State} {m : MethodId} {args : Array Value} {below : List Frame} {meth : Method} {c : Code}
variable {cc : ByteArray} {nL : Nat} {D : va_G} {cA : Nat → ClassId} {B : Nat} {own : String} {ini : Bool}
theorem z_ret_ok (hx : p.tables.exec = Jvm.exec) (hb : c.code = cc) {ret : Option FieldType} (hr : meth.sig.returnType = ret) (hlocks : meth.locks = false) {rk : Nat} (hrk : z_rk ret rk) {K : Option Value → bS → Prop} {mc ms : Nat} :
    z_RetOK p l e R s m args below meth c (MQ below (z_Qc D cA B K) args s mc ms (fun q => B ≤ q)) D cA B s.heap cc rk (fun v σ c n => K v σ ∧ c ≤ mc ∧ n ≤ ms) := by
  intro i v pc ls σ H locs cells slots hi hd hpo hok hS
  obtain ⟨hK, hc1, hc2⟩ := hpo
  refine W.widen hc1 hc2 ?_
  have fin : ∀ t : State, t.heap = H → z_Qc D cA B K args s (.returned v) t := fun t ht => ⟨v, σ, rfl, hK, by rw [ht]; exact hok, by rw [va_F, ht]; exact ⟨hS.1, fun q h1 h2 => hS.2.1 q h1 h2⟩⟩
  rcases hi with ⟨rfl, hk, x, rfl, hx2⟩ | ⟨rfl, rfl, x, rfl⟩ | ⟨rfl, rfl, x, rfl⟩ | ⟨rfl, rfl, r, rfl⟩ | ⟨rfl, rfl, rfl⟩
  · rcases hk with rfl | rfl
    · have hr1 : ret = some .int := by
        rcases hrk with ⟨a, b⟩ | ⟨a, b⟩ | ⟨a, b⟩ | ⟨a, b⟩ | ⟨a, b⟩ | ⟨a, b⟩ <;> first | exact b | (exact absurd a (by decide))
      exact W.iret (v := x) hx hb (hr.trans hr1) (fun t ht hW => fin t ht) hS.2.2 hd
    · have hr1 : ret = some .boolean := by
        rcases hrk with ⟨a, b⟩ | ⟨a, b⟩ | ⟨a, b⟩ | ⟨a, b⟩ | ⟨a, b⟩ | ⟨a, b⟩ <;> first | exact b | (exact absurd a (by decide))
      exact W.zret (v := x) (ty := .boolean) hx hb (hr.trans hr1) (by rcases hx2 rfl with rfl | rfl <;> rfl) (fun t ht hW => fin t ht) hS.2.2 hd
  · have hr1 : ret = some .long := by
      rcases hrk with ⟨a, b⟩ | ⟨a, b⟩ | ⟨a, b⟩ | ⟨a, b⟩ | ⟨a, b⟩ | ⟨a, b⟩ <;> first | exact b | (exact absurd a (by decide))
    exact W.lret (v := x) hx hb (hr.trans hr1) (fun t ht hW => fin t ht) hS.2.2 hd
  · have hr1 : ret = some .double := by
      rcases hrk with ⟨a, b⟩ | ⟨a, b⟩ | ⟨a, b⟩ | ⟨a, b⟩ | ⟨a, b⟩ | ⟨a, b⟩ <;> first | exact b | (exact absurd a (by decide))
    exact W.dret (v := x) hx hb (hr.trans hr1) (fun t ht hW => fin t ht) hS.2.2 hd
  · have hr1 : (∃ C, ret = some (.object C)) ∨ ∃ t, ret = some (.array t) := by
      rcases hrk with ⟨a, b⟩ | ⟨a, b⟩ | ⟨a, b⟩ | ⟨a, b⟩ | ⟨a, b⟩ | ⟨a, b⟩ <;> first | exact b | (exact absurd a (by decide))
    rcases hr1 with ⟨C, h⟩ | ⟨t, h⟩
    · exact W.aret (v := va_rf r) hx hb (hr.trans h) (Or.inl ⟨_, rfl⟩) (by cases r; exact Or.inl rfl; exact Or.inr ⟨_, rfl⟩) (fun t ht hW => fin t ht) hS.2.2 hd
    · exact W.aret (v := va_rf r) hx hb (hr.trans h) (Or.inr ⟨_, rfl⟩) (by cases r; exact Or.inl rfl; exact Or.inr ⟨_, rfl⟩) (fun t ht hW => fin t ht) hS.2.2 hd
  · have hr1 : ret = none := by
      rcases hrk with ⟨a, b⟩ | ⟨a, b⟩ | ⟨a, b⟩ | ⟨a, b⟩ | ⟨a, b⟩ | ⟨a, b⟩ <;> first | exact b | (exact absurd a (by decide))
    exact W.vret hx hb (hr.trans hr1) (fun t ht hW => fin t ht) hS.2.2 hd
end ZC1
/-- a call that a method of class 'own' may make: sound wherever it stands -/
def z_CallP (l : Launch) (own : String) (cc : ByteArray) (nL : Nat) (rm : Room) (q : zC) : Prop :=
  ∀ (p : Program) (e : Env) (s : State) (m : MethodId) (args : Array Value) (below : List Frame) (meth : Method) (c : Code) (Q : State → Prop) (D : va_G) (cA : Nat → ClassId) (B : Nat) (H0 : Heap) (ini : Bool), z_Cx p s m args meth c cc nL D cA B H0 own ini → z_CallOK p l e rm s m args below meth c Q nL D cA B H0 cc q.1 q.2
theorem z_fc_mem {cl : List zC} {u : Nat} {q : Nat × zPT × Nat × Nat} (h : z_fc cl u = some q) : (u, q) ∈ cl := by
  induction cl with
  | nil => cases h
  | cons a r ih =>
    unfold z_fc at h
    split at h
    · rename_i e
      cases h
      rw [← e]
      exact List.mem_cons_self
    · exact List.mem_cons_of_mem _ (ih h)
/-- what may be used of a walk: a stretch leads on; fewer locals do -/
def z_Cl (T : List zR) (cl : List zC) (po : Option Value → bS → Nat → Nat → Prop) (rc rs rk : Nat) (K : zK) : Prop :=
  (∀ (cut : List (Nat × List Nat)) (f pc : Nat) (lv : List (Nat × Value)) (st : List Value) (σ : bS) (c n : Nat), z_hd T cl po rc rs rk (z_wp T cl po rc rs rk cut K f) pc lv st σ c n → K pc lv st σ c n) ∧
  ∀ (pc : Nat) (lv lv' : List (Nat × Value)) (st : List Value) (σ : bS) (c n : Nat), (∀ q ∈ lv', q ∈ lv) → K pc lv' st σ c n → K pc lv st σ c n
theorem z_Cl_Sem {p : Program} {l : Launch} {e : Env} {R : Room} {s : State} {m : MethodId} {args : Array Value} {below : List Frame} {meth : Method} {c : Code} {Q : State → Prop} {cc : ByteArray} {nL : Nat} {D : va_G} {cA : Nat → ClassId} {B : Nat} {H0 : Heap} {own : String} {ini : Bool}
    (X : z_Cx p s m args meth c cc nL D cA B H0 own ini) {T : List zR} {rk : Nat} (hT : z_tok own ini nL rk cc T) {cl : List zC} {po : Option Value → bS → Nat → Nat → Prop}
    (hcl : ∀ q ∈ cl, z_CallP l own cc nL R q) (hret : z_RetOK p l e R s m args below meth c Q D cA B H0 cc rk po) : z_Cl T cl po R.cells R.slots rk (z_Sem p l e R s m args below meth c Q nL D cA B H0) := by
  have hc : ∀ u q, z_fc cl u = some q → z_CallOK p l e R s m args below meth c Q nL D cA B H0 cc u q := fun u q h => hcl _ (z_fc_mem h) p e s m args below meth c Q D cA B H0 ini X
  refine ⟨fun cut f pc lv st σ c n h => ?_, fun pc lv lv' st σ c n hs h => ?_⟩
  · exact z_hd_snd X hT hc hret (fun _ _ _ _ _ _ h => z_wp_snd X hT hc hret (fun _ _ _ _ _ _ h => h) f h) h
  · intro H ls locs h1 h2 h3
    exact h H ls locs h1 (z_has_sub h2 hs) h3
/-- A METHOD'S CONTRACT, out of its stretches -/
theorem z_Ct_of {l : Launch} {y : MethodName} {cc : ByteArray} {maxL : Nat} {ret : Option FieldType} {rm : Room} {PT : zPT} {mc ms : Nat} {T : List zR} {cl : List zC} {rk : Nat} (hy : plainName y.cls = true) (hini : Bool) (hname : hini = true → y.name = "<init>") (hT : z_tok y.cls hini maxL rk cc T) (hrk : z_rk ret rk) (hrc : rm.cells = mc) (hrs : rm.slots = ms)
    (hcl : ∀ q ∈ cl, z_CallP l y.cls cc maxL rm q)
    (hlen : ∀ as σ K, PT as σ K → (lg_sl as).length ≤ maxL)
    (hgo : ∀ (as : List Value) (σ : bS) (Kp : Option Value → bS → Prop), PT as σ Kp → ∀ K : zK, z_Cl T cl (fun v σ c n => Kp v σ ∧ c ≤ mc ∧ n ≤ ms) mc ms rk K → K 0 (lv_args 0 as) [] σ 0 0) : z_Ct l y cc maxL ret rm PT mc ms := by
  intro D cA B as σ Kp hPT
  refine Met.ofW (cc := cc) (maxL := maxL) (ret := ret) hy rfl ?_
  intro p e s m args below meth c s₁ Bd hml hv
  obtain ⟨rfl, hok, hK, hN, hB, hZs⟩ := hv
  have hx := Bd.exec
  have hb := Bd.bytes
  have hr := Bd.returns
  have hts0 := atoms_spec (ws := Cond.code y cc maxL ret :: z_wd) Bd.pre
  have hts : ∀ w ∈ z_wd, w.before as.toArray s = true := fun w h => hts0 w (List.mem_cons_of_mem _ h)
  have hown : s.vm.findClass y.cls = some m.cls := findClass_of_methodNamed Bd.named
  have hlocks := Bd.notSynchronized
  have hin : meth.name = y.name := (name_of_methodNamed Bd.named Bd.method).1
  have X : z_Cx p s m as.toArray meth c cc maxL D cA B s.heap y.cls hini := ⟨hx, hb, hml, hown, hts, hN, hK, hB, fun h => hin.trans (hname h), hZs⟩
  have hl := lv_entry as (n := maxL) (hlen as σ Kp hPT)
  rw [lg_entry_eq]
  generalize (lg_sl as ++ List.replicate (maxL - (lg_sl as).length) Slot.unset).toArray = ls at hl ⊢
  have hCl := z_Cl_Sem (l := l) (e := e) (R := rm) (below := below) (Q := MQ below (z_Qc D cA B Kp) as.toArray s mc ms (fun q => B ≤ q)) X hT hcl (z_ret_ok hx hb hr hlocks hrk)
  rw [hrc, hrs] at hCl
  exact hgo as σ Kp hPT _ hCl s.heap ls [] hok hl va_S.rf

section ZC2
variable {p : Program} {l : Launch} {e : Env} {R : Room} {s : State} {m : MethodId} {args : Array Value} {below : List Frame} {meth : Method} {c : Code} {Q : State → Prop}
variable {cc : ByteArray} {nL : Nat} {D : va_G} {cA : Nat → ClassId} {B : Nat} {H0 : Heap} {own : String} {ini : Bool}
/-- behind a call -/
theorem z_after {H : Heap} {locs : List Loc} {cells slots mc ms pc : Nat} {ls : Array Slot} {st rest : List Value} {lv : List (Nat × Value)} {K : Option Value → bS → Prop} {a : Array Value}
    (hr : va_Run p l e R s m args below meth c H locs cells slots mc ms (F0 m pc ls st) rest (z_Qc D cA B K a) (fun q => B ≤ q)) (hl : lv_has ls nL lv) (hS : va_S (fun q => B ≤ q) H0 H locs)
    (hgo : ∀ v σ', K v σ' → z_Sem p l e R s m args below meth c Q nL D cA B H0 (pc + 3) lv (v.toList ++ rest) σ' (cells + mc) (slots + ms)) : W p l e R s m args below meth c H locs cells slots Q (F0 m pc ls st) := by
  intro T hT X
  obtain ⟨v, st₀, t, T', L, h0, X', hL, e1, e2, ⟨r, σ', hv, hK, hok, hF⟩, stp⟩ := hr T hT X
  cases hv
  obtain ⟨hz, hk⟩ := hF
  rw [h0] at hz hk
  rw [← e1] at hok hz hk
  have hS' : va_S (fun q => B ≤ q) H0 T'.heap (locs ++ L) := ⟨Nat.le_trans hS.1 hz, fun q h1 h2 => by rw [hk q (Nat.lt_of_lt_of_le h1 hS.1) h2]; exact hS.2.1 q h1 h2, fun q hq => by
    rcases List.mem_append.mp hq with h | h
    · exact hS.2.2 q h
    · exact hL q h⟩
  obtain ⟨t2, a1, b1⟩ := hgo v σ' hK T'.heap ls (locs ++ L) hok hl hS' T' rfl X'
  exact ⟨t2, stp t2 a1, b1⟩
end ZC2
def z_rcv (d : Nat) (as : List Value) (σ : bS) : Prop := match as with
  | .ref b :: _ => z_t σ b = d + 1
  | _ => False
theorem zs_rcv (d b : Nat) (r : List Value) (σ : bS) : z_rcv d (.ref b :: r) σ = (z_t σ b = d + 1) := (rfl)
/-- a contract with what a call of a receiver needs -/
def z_PV (d : Nat) (PT : zPT) : zPT := fun as σ K => z_rcv d as σ ∧ PT as σ K
theorem z_take {st : List Value} {n : Nat} {as : List Value} (h : (st.take n).reverse = as) : st = as.reverse ++ st.drop n := by
  rw [← h, List.reverse_reverse, List.take_append_drop]
section ZC3
variable {l : Launch} {own C host : String} {cc bytes : ByteArray} {nL maxL mc ms n d u : Nat} {rm R : Room} {y : MethodName} {ret : Option FieldType} {PT : zPT} {T : u_T} {N : Nat}
theorem z_PV_V (hC : z_Ct l y bytes maxL ret rm PT mc ms) (hcode : Cond.code y bytes maxL ret ∈ z_wd) (hc : z_cl[d]? = some (C, T, N)) (hws : ∀ w ∈ [Cond.methodLink own u y, .instanceMethod y, .selects C y y, .initialized C], w ∈ z_wd) (hrc : rm.cells = mc) (hrs : rm.slots = ms)
    (hd : y.cls = C ∧ y.cls ≠ "java/lang/invoke/MethodHandle" ∧ y.cls ≠ "java/lang/invoke/VarHandle" ∧ (parseMethodDescriptor y.desc).map (fun d => d.parameters.length) = some n) (hR : rm.frames + 1 ≤ R.frames ∧ 8 + (maxL + 11) + rm.locals ≤ R.locals) :
    z_CallP l own cc nL R (4 * u, n + 1, z_PV d PT, mc, ms) := by
  intro p e s m args below meth c Q D cA B H0 ini X i pc lv st σ cells slots K hkey hdg h1 h2 h3 h4 h5 hgo H ls locs hok hl hS
  obtain ⟨hx, hb, hml, hown, hts, hN, hK, hBH, -, hZs⟩ := X
  obtain rfl : i = .invokevirtual u := by
    rcases hkey with ⟨k, rfl, hk⟩ | ⟨k, rfl, hk⟩ | ⟨k, rfl, hk⟩
    · have : k = u := by have := hk; simp only at this; omega
      rw [this]
    · have := hk; simp only at this; omega
    · have := hk; simp only at this; omega
  dsimp only at h1 h2 h3 h4 h5 hgo
  obtain ⟨hrv, hPT⟩ := h5
  generalize has : (st.take (n + 1)).reverse = as at hrv hPT
  match as, hrv with
  | .ref b :: As, hrv =>
    have hst : st = As.reverse ++ .ref b :: st.drop (n + 1) := by
      have := z_take has
      simpa using this
    have hlen : As.length = n := by
      have := congrArg List.length has
      simp at this
      omega
    obtain ⟨r9, hr9, cell, g1, g2, g3, -⟩ := hok.2.1 b _ (z_e_o hrv hc (z_lt20 hc))
    have hcls := (hK.1 d _ hc).2
    have hG : GoodIn z_wd (wsV own u C y (Cond.code y bytes maxL ret :: z_wd)) := z_good (fun w hw => by
      rcases List.mem_append.mp hw with h | h
      · exact hws w h
      · rcases List.mem_cons.mp h with h | h
        · rw [h]; exact hcode
        · exact h)
    refine z_after (va_runV (C := C) (b := b) (As := As) (rest := st.drop (n + 1)) ⟨hx, hb, hml, hown, hts⟩ (hC D cA B _ σ K hPT) (cwV n hts hG rfl hrc hrs hd hR) ⟨z_Pc_blind, ⟨cell, g1, by rw [g3]; rfl, by rw [g2]; exact hcls.1⟩, fun U hU hW => ⟨rfl, by rw [hU]; exact hok, va_K.moved hW.alike hK, z_N.warm hW hN, by rw [hU]; exact Nat.le_trans hBH hS.1, by rw [hU]; exact z_Zs.to hW.alike hZs (fun q g4 g5 => hS.2.1 q g4 g5)⟩⟩ rfl hlen hl.1 hst (lv_room h4) hdg ⟨h2, h3⟩) hl hS hgo
theorem z_PV_VN (hC : z_Ct l y bytes maxL ret rm PT mc ms) (hcode : Cond.code y bytes maxL ret ∈ z_wd) (hc : z_cl[d]? = some (C, T, N)) (hws : ∀ w ∈ [Cond.instanceMethod y, .selects C y y, .initialized y.cls], w ∈ z_wd) (hlk : Cond.methodLinkNest own u y host ∈ z_nk) (hrc : rm.cells = mc) (hrs : rm.slots = ms)
    (hd : y.cls ≠ "java/lang/invoke/MethodHandle" ∧ y.cls ≠ "java/lang/invoke/VarHandle" ∧ (parseMethodDescriptor y.desc).map (fun d => d.parameters.length) = some n) (hR : rm.frames + 1 ≤ R.frames ∧ 8 + (maxL + 11) + rm.locals ≤ R.locals) :
    z_CallP l own cc nL R (4 * u, n + 1, z_PV d PT, mc, ms) := by
  intro p e s m args below meth c Q D cA B H0 ini X i pc lv st σ cells slots K hkey hdg h1 h2 h3 h4 h5 hgo H ls locs hok hl hS
  obtain ⟨hx, hb, hml, hown, hts, hN, hK, hBH, -, hZs⟩ := X
  obtain rfl : i = .invokevirtual u := by
    rcases hkey with ⟨k, rfl, hk⟩ | ⟨k, rfl, hk⟩ | ⟨k, rfl, hk⟩
    · have : k = u := by have := hk; simp only at this; omega
      rw [this]
    · have := hk; simp only at this; omega
    · have := hk; simp only at this; omega
  dsimp only at h1 h2 h3 h4 h5 hgo
  obtain ⟨hrv, hPT⟩ := h5
  generalize has : (st.take (n + 1)).reverse = as at hrv hPT
  match as, hrv with
  | .ref b :: As, hrv =>
    have hst : st = As.reverse ++ .ref b :: st.drop (n + 1) := by
      have := z_take has
      simpa using this
    have hlen : As.length = n := by
      have := congrArg List.length has
      simp at this
      omega
    obtain ⟨r9, hr9, cell, g1, g2, g3, -⟩ := hok.2.1 b _ (z_e_o hrv hc (z_lt20 hc))
    have hcls := (hK.1 d _ hc).2
    have hG : GoodIn z_wd (Cond.code y bytes maxL ret :: z_wd) := z_good (fun w hw => by
      rcases List.mem_cons.mp hw with h | h
      · rw [h]; exact hcode
      · exact h)
    refine z_after (va_runVN (C := C) (host := host) (b := b) (As := As) (rest := st.drop (n + 1)) ⟨hx, hb, hml, hown, hts⟩ (hC D cA B _ σ K hPT) ⟨va_cnB n hts hG rfl hrc hrs (hN.1 _ hlk) (hts _ (hws _ (by simp))) hd hR, hts _ (hws _ (by simp)), hts _ (hws _ (by simp))⟩ ⟨z_Pc_blind, ⟨cell, g1, by rw [g3]; rfl, by rw [g2]; exact hcls.1⟩, fun U hU hW => ⟨rfl, by rw [hU]; exact hok, va_K.moved hW.alike hK, z_N.warm hW hN, by rw [hU]; exact Nat.le_trans hBH hS.1, by rw [hU]; exact z_Zs.to hW.alike hZs (fun q g4 g5 => hS.2.1 q g4 g5)⟩⟩ rfl hlen hl.1 hst (lv_room h4) hdg ⟨h2, h3⟩) hl hS hgo
theorem z_PV_I (hC : z_Ct l y bytes maxL none rm PT mc ms) (hcode : Cond.code y bytes maxL none ∈ z_wd) (hws : ∀ w ∈ [Cond.methodLink own u y, .instanceMethod y, .initialized y.cls], w ∈ z_wd) (hrc : rm.cells = mc) (hrs : rm.slots = ms) (hy1 : y.name = "<init>")
    (hd : y.cls ≠ "java/lang/invoke/MethodHandle" ∧ y.cls ≠ "java/lang/invoke/VarHandle" ∧ (parseMethodDescriptor y.desc).map (fun d => d.parameters.length) = some n) (hR : rm.frames + 1 ≤ R.frames ∧ 8 + (maxL + 11) + rm.locals ≤ R.locals) :
    z_CallP l own cc nL R (4 * u + 1, n + 1, z_PV d PT, mc, ms) := by
  intro p e s m args below meth c Q D cA B H0 ini X i pc lv st σ cells slots K hkey hdg h1 h2 h3 h4 h5 hgo H ls locs hok hl hS
  obtain ⟨hx, hb, hml, hown, hts, hN, hK, hBH, -, hZs⟩ := X
  obtain rfl : i = .invokespecial u := by
    rcases hkey with ⟨k, rfl, hk⟩ | ⟨k, rfl, hk⟩ | ⟨k, rfl, hk⟩
    · have := hk; simp only at this; omega
    · have : k = u := by have := hk; simp only at this; omega
      rw [this]
    · have := hk; simp only at this; omega
  dsimp only at h1 h2 h3 h4 h5 hgo
  obtain ⟨hrv, hPT⟩ := h5
  generalize has : (st.take (n + 1)).reverse = as at hrv hPT
  match as, hrv with
  | .ref b :: As, hrv =>
    have hst : st = As.reverse ++ .ref b :: st.drop (n + 1) := by
      have := z_take has
      simpa using this
    have hlen : As.length = n := by
      have := congrArg List.length has
      simp at this
      omega
    have hG : GoodIn z_wd (Cond.code y bytes maxL none :: z_wd) := z_good (fun w hw => by
      rcases List.mem_cons.mp hw with h | h
      · rw [h]; exact hcode
      · exact h)
    refine z_after (va_runI (b := b) (As := As) (rest := st.drop (n + 1)) ⟨hx, hb, hml, hown, hts⟩ (hC D cA B _ σ K hPT) (cwI n hts hG rfl hrc hrs (hts _ (hws _ (by simp))) (hts _ (hws _ (by simp))) (hts _ (hws _ (by simp))) hy1 hd hR) ⟨z_Pc_blind, fun U hU hW => ⟨rfl, by rw [hU]; exact hok, va_K.moved hW.alike hK, z_N.warm hW hN, by rw [hU]; exact Nat.le_trans hBH hS.1, by rw [hU]; exact z_Zs.to hW.alike hZs (fun q g4 g5 => hS.2.1 q g4 g5)⟩⟩ rfl hlen hl.1 hst (lv_room h4) hdg ⟨h2, h3⟩) hl hS hgo
theorem z_PV_IN (hC : z_Ct l y bytes maxL none rm PT mc ms) (hcode : Cond.code y bytes maxL none ∈ z_wd) (hws : ∀ w ∈ [Cond.instanceMethod y, .initialized y.cls], w ∈ z_wd) (hlk : Cond.methodLinkNest own u y host ∈ z_nk) (hrc : rm.cells = mc) (hrs : rm.slots = ms) (hy1 : y.name = "<init>")
    (hd : y.cls ≠ "java/lang/invoke/MethodHandle" ∧ y.cls ≠ "java/lang/invoke/VarHandle" ∧ (parseMethodDescriptor y.desc).map (fun d => d.parameters.length) = some n) (hR : rm.frames + 1 ≤ R.frames ∧ 8 + (maxL + 11) + rm.locals ≤ R.locals) :
    z_CallP l own cc nL R (4 * u + 1, n + 1, z_PV d PT, mc, ms) := by
  intro p e s m args below meth c Q D cA B H0 ini X i pc lv st σ cells slots K hkey hdg h1 h2 h3 h4 h5 hgo H ls locs hok hl hS
  obtain ⟨hx, hb, hml, hown, hts, hN, hK, hBH, -, hZs⟩ := X
  obtain rfl : i = .invokespecial u := by
    rcases hkey with ⟨k, rfl, hk⟩ | ⟨k, rfl, hk⟩ | ⟨k, rfl, hk⟩
    · have := hk; simp only at this; omega
    · have : k = u := by have := hk; simp only at this; omega
      rw [this]
    · have := hk; simp only at this; omega
  dsimp only at h1 h2 h3 h4 h5 hgo
  obtain ⟨hrv, hPT⟩ := h5
  generalize has : (st.take (n + 1)).reverse = as at hrv hPT
  match as, hrv with
  | .ref b :: As, hrv =>
    have hst : st = As.reverse ++ .ref b :: st.drop (n + 1) := by
      have := z_take has
      simpa using this
    have hlen : As.length = n := by
      have := congrArg List.length has
      simp at this
      omega
    have hG : GoodIn z_wd (Cond.code y bytes maxL none :: z_wd) := z_good (fun w hw => by
      rcases List.mem_cons.mp hw with h | h
      · rw [h]; exact hcode
      · exact h)
    refine z_after (va_runIN (host := host) (b := b) (As := As) (rest := st.drop (n + 1)) ⟨hx, hb, hml, hown, hts⟩ (hC D cA B _ σ K hPT) ⟨va_cnB n hts hG rfl hrc hrs (hN.1 _ hlk) (hts _ (hws _ (by simp))) hd hR, hy1, hts _ (hws _ (by simp))⟩ ⟨z_Pc_blind, fun U hU hW => ⟨rfl, by rw [hU]; exact hok, va_K.moved hW.alike hK, z_N.warm hW hN, by rw [hU]; exact Nat.le_trans hBH hS.1, by rw [hU]; exact z_Zs.to hW.alike hZs (fun q g4 g5 => hS.2.1 q g4 g5)⟩⟩ rfl hlen hl.1 hst (lv_room h4) hdg ⟨h2, h3⟩) hl hS hgo
theorem z_PS (hC : z_Ct l y bytes maxL ret rm PT mc ms) (hcode : Cond.code y bytes maxL ret ∈ z_wd) (hws : ∀ w ∈ [Cond.methodLink own u y, .static y, .initialized y.cls], w ∈ z_wd) (hrc : rm.cells = mc) (hrs : rm.slots = ms)
    (hd : y.cls ≠ "java/lang/invoke/MethodHandle" ∧ y.cls ≠ "java/lang/invoke/VarHandle" ∧ (parseMethodDescriptor y.desc).map (fun d => d.parameters.length) = some n) (hR : rm.frames + 1 ≤ R.frames ∧ 8 + (maxL + 11) + rm.locals ≤ R.locals) :
    z_CallP l own cc nL R (4 * u + 2, n, PT, mc, ms) := by
  intro p e s m args below meth c Q D cA B H0 ini X i pc lv st σ cells slots K hkey hdg h1 h2 h3 h4 h5 hgo H ls locs hok hl hS
  obtain ⟨hx, hb, hml, hown, hts, hN, hK, hBH, -, hZs⟩ := X
  obtain rfl : i = .invokestatic u := by
    rcases hkey with ⟨k, rfl, hk⟩ | ⟨k, rfl, hk⟩ | ⟨k, rfl, hk⟩
    · have := hk; simp only at this; omega
    · have := hk; simp only at this; omega
    · have : k = u := by have := hk; simp only at this; omega
      rw [this]
  dsimp only at h1 h2 h3 h4 h5 hgo
  have hPT := h5
  generalize has : (st.take n).reverse = As at hPT
  have hst : st = As.reverse ++ st.drop n := z_take has
  have hlen : As.length = n := by
    have := congrArg List.length has
    simp at this
    omega
  have hG : GoodIn z_wd (Cond.code y bytes maxL ret :: z_wd) := z_good (fun w hw => by
    rcases List.mem_cons.mp hw with h | h
    · rw [h]; exact hcode
    · exact h)
  refine z_after (va_runS (As := As) (rest := st.drop n) ⟨hx, hb, hml, hown, hts⟩ (hC D cA B _ σ K hPT) ⟨callB_of n hts hG rfl hrc hrs (hts _ (hws _ (by simp))) (hts _ (hws _ (by simp))) hd hR, hts _ (hws _ (by simp))⟩ ⟨z_Pc_blind, fun U hU hW => ⟨rfl, by rw [hU]; exact hok, va_K.moved hW.alike hK, z_N.warm hW hN, by rw [hU]; exact Nat.le_trans hBH hS.1, by rw [hU]; exact z_Zs.to hW.alike hZs (fun q g4 g5 => hS.2.1 q g4 g5)⟩⟩ rfl hlen hl.1 hst (lv_room h4) hdg ⟨h2, h3⟩) hl hS hgo
end ZC3
