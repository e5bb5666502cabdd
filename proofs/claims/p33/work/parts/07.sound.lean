
/-! ===== a table's row is good, decided ===== -/
def z_ln : Instr → Nat
  | .bipush _ | .iload _ | .lload _ | .aload _ | .istore _ | .lstore _ | .astore _ | .ldc _ | .newarray _ => 2
  | .sipush _ | .ldc_w _ | .ldc2_w _ | .iinc _ _ | .ifCond _ _ | .if_icmp _ _ | .if_acmp _ _ | .ifnull _ | .ifnonnull _ | .goto _ | .getfield _ | .putfield _ | .new _ | .anewarray _ | .checkcast _ | .getstatic _ | .invokevirtual _ | .invokespecial _ | .invokestatic _ => 3
  | _ => 1
def z_lnok (i : Instr) (len : Nat) : Bool := match i with
  | .tableswitch .. => true
  | _ => len == z_ln i
def z_br (pc : Nat) (o : Int) (tg : List Nat) : Bool := match tg with
  | [t] => decide ((pc : Int) + o = (t : Int))
  | _ => false
def z_fin (d k : Nat) : Bool := match z_cl[d]? with
  | some r => (r.2.1 k).2.2.2
  | none => true
def z_dcl (d k : Nat) : String := match z_cl[d]? with
  | some r => (r.2.1 k).1
  | none => ""
def z_aux (own : String) (ini : Bool) (nL rk : Nat) (i : Instr) (pc : Nat) (tg : List Nat) : Bool := match i with
  | .ldc u | .ldc_w u => match tg with
    | [v] => decide ((own, u, v) ∈ z_KI)
    | _ => false
  | .ldc2_w u => match tg with
    | [v] => decide ((own, u, v) ∈ z_KL)
    | [v, _] => decide ((own, u, v) ∈ z_KD)
    | _ => false
  | .istore i | .astore i | .iinc i _ => decide (i < nL)
  | .istore_n i | .astore_n i => decide ((i : Nat) < nL)
  | .lstore i => decide (i + 1 < nL)
  | .lstore_n i => decide ((i : Nat) + 1 < nL)
  | .goto o | .ifnull o | .ifnonnull o | .ifCond _ o | .if_icmp _ o | .if_acmp _ o => z_br pc o tg
  | .tableswitch d lo hi os => match tg with
    | t :: ts => decide ((pc : Int) + d = (t : Int)) && decide (os.toList.map (fun o => (pc : Int) + o) = ts.map (fun t : Nat => (t : Int))) && decide (hi - lo + 1 = (ts.length : Int))
    | _ => false
  | .getfield u => match tg with
    | [d, k, b] => decide ((own, u, d, k) ∈ z_FL) && (z_k d k == (b == 1)) && decide (b ≤ 1)
    | _ => false
  | .putfield u => match tg with
    | [d, k, b] => decide ((own, u, d, k) ∈ z_FL) && (z_k d k == (b == 1)) && decide (b ≤ 1) && (!z_fin d k || (ini && decide (z_dcl d k = own)))
    | _ => false
  | .new u => match tg with
    | [d, N] => decide ((own, u, d) ∈ z_CL) && decide ((d, N) ∈ z_MK)
    | _ => false
  | .anewarray u => match tg with
    | [t] => decide ((own, u, t) ∈ z_AL)
    | _ => false
  | .newarray a => decide (a = .int)
  | .checkcast u => match tg with
    | [d] => decide ((own, u, d) ∈ z_CL)
    | _ => false
  | .getstatic u => decide (own = "java/util/ArrayList") && decide (u = 39)
  | .ireturn => decide (rk = 1 ∨ rk = 2)
  | .lreturn => decide (rk = 3)
  | .dreturn => decide (rk = 4)
  | .areturn => decide (rk = 5)
  | .return_ => decide (rk = 0)
  | _ => true
/-- a method's table is good -/
def z_tok (own : String) (ini : Bool) (nL rk : Nat) (cc : ByteArray) (T : List zR) : Prop := ∀ q ∈ T, decode cc q.1 = .ok (q.2.1, q.2.2.1) ∧ (z_lnok q.2.1 q.2.2.1 && z_aux own ini nL rk q.2.1 q.1 q.2.2.2) = true
/-! locals -/
theorem z_gl_mem {lv : List (Nat × Value)} {i : Nat} {v : Value} (h : z_gl lv i = some v) : (i, v) ∈ lv := by
  induction lv with
  | nil => cases h
  | cons q r ih =>
    unfold z_gl at h
    split at h
    · rename_i e
      cases h
      rw [← e]
      exact List.mem_cons_self
    · exact List.mem_cons_of_mem _ (ih h)
theorem z_gl_at {ls : Array Slot} {nL : Nat} {lv : List (Nat × Value)} {i : Nat} {v : Value} (h : lv_has ls nL lv) (e : z_gl lv i = some v) : ls[i]? = some (.val v) := h.2.2 (i, v) (z_gl_mem e)
theorem z_rm_eq (lv : List (Nat × Value)) (i : Nat) : lv.filter (fun q => !(q.1 == i) && !(q.1 + 1 == i && q.2.category == 2)) = z_rm lv i := by
  induction lv with
  | nil => rfl
  | cons q r ih =>
    unfold z_rm
    rw [List.filter_cons, ih]
    by_cases h1 : q.1 = i <;> by_cases h2 : q.1 + 1 = i <;> by_cases h3 : q.2.category = 2 <;> simp [h1, h2, h3]
theorem z_rm2_eq (lv : List (Nat × Value)) (i : Nat) : lv.filter (fun q => !(q.1 == i) && (!(q.1 == i + 1) && !(q.1 + 1 == i && q.2.category == 2))) = z_rm2 lv i := by
  induction lv with
  | nil => rfl
  | cons q r ih =>
    unfold z_rm2
    rw [List.filter_cons, ih]
    by_cases h1 : q.1 = i <;> by_cases h4 : q.1 = i + 1 <;> by_cases h2 : q.1 + 1 = i <;> by_cases h3 : q.2.category = 2 <;> simp [h1, h2, h3, h4]
theorem z_pk_mem {lv : List (Nat × Value)} {keep : List Nat} : ∀ q ∈ z_pk lv keep, q ∈ lv := by
  induction keep with
  | nil => intro q h; cases h
  | cons i r ih =>
    intro q h
    unfold z_pk z_p0 at h
    split at h
    · rename_i v e
      rcases List.mem_cons.mp h with rfl | h
      · exact z_gl_mem e
      · exact ih q h
    · exact ih q h
theorem z_has_sub {ls : Array Slot} {nL : Nat} {l l' : List (Nat × Value)} (h : lv_has ls nL l) (hs : ∀ q ∈ l', q ∈ l) : lv_has ls nL l' := ⟨h.1, h.2.1, fun q hq => h.2.2 q (hs q hq)⟩
theorem z_sw_get {K : zK} {lv : List (Nat × Value)} {r : List Value} {σ : bS} {c n : Nat} {x : Int32} : ∀ {lo : Int} {ts : List Nat}, z_sw K lv r σ c n x lo ts → ∀ (j t : Nat), ts[j]? = some t → x.toInt = lo + j → K t lv r σ c n
  | lo, [], _, j, t, h, _ => by simp at h
  | lo, t0 :: ts, h, 0, t, hj, hx => by
    simp at hj
    subst hj
    exact h.1 (by simpa using hx)
  | lo, t0 :: ts, h, j + 1, t, hj, hx => z_sw_get h.2 j t (by simpa using hj) (by rw [hx]; simp only [Int.natCast_add, Int.cast_ofNat_Int]; omega)
theorem z_sing {D : va_G} {a : Nat} {e : va_E} {H : Heap} (h : va_at D z_cl (a, e) H) : va_P D z_cl [(a, e)] H := by
  intro k q hq
  match k, hq with
  | 0, hq => cases hq; exact h
  | n + 1, hq => simp at hq
section ZS
variable {p : Program} {l : Launch} {e : Env} {R : Room} {s : State} {m : MethodId} {args : Array Value} {below : List Frame} {meth : Method} {c : Code} {Q : State → Prop}
variable {cc : ByteArray} {nL : Nat} {D : va_G} {cA : Nat → ClassId} {B : Nat} {H0 : Heap} {own : String} {ini : Bool}
/-- the machine comes to Q from every heap that holds the state -/
def z_Sem (p : Program) (l : Launch) (e : Env) (R : Room) (s : State) (m : MethodId) (args : Array Value) (below : List Frame) (meth : Method) (c : Code) (Q : State → Prop) (nL : Nat) (D : va_G) (cA : Nat → ClassId) (B : Nat) (H0 : Heap) : zK := fun pc lv st σ cells slots =>
  ∀ (H : Heap) (ls : Array Slot) (locs : List Loc), z_ok D cA B σ H → lv_has ls nL lv → va_S (fun q => B ≤ q) H0 H locs → W p l e R s m args below meth c H locs cells slots Q (F0 m pc ls st)
/-- ArrayList's empty row, a static -/
def z_NA (cA : Nat → ClassId) (s : State) : Prop := ArrOfT s (cA 30) .int ∧ ArrOfT s (cA 31) (.object "java/lang/Object")
theorem z_NA.moved {cA : Nat → ClassId} {s U : State} (hvm : s.vm.Alike U.vm) (h : z_NA cA s) : z_NA cA U := ⟨arrOfT_moved hvm h.1, arrOfT_moved hvm h.2⟩
theorem z_xarr {s : State} {cell : Cell} {cI : ClassId} {ty : FieldType} (hc : cell.cls = cI) (hv : ∀ k, cell.vm ≠ .statics k) (h : ArrOfT s cI ty) : s.isArrayOf cell ty := by
  have h2 := (h 0 (fun _ => .null)).2
  exact ⟨hv, by rw [hc]; exact h2⟩
def z_Zs (cA : Nat → ClassId) (B : Nat) (s : State) (H : Heap) : Prop := va_Z "java/util/ArrayList" "DEFAULTCAPACITY_EMPTY_ELEMENTDATA" "[Ljava/lang/Object;" (.ref (cA 99)) (fun q => B ≤ q) s H ∧ z_NA cA s
theorem z_Zs.moved {cA : Nat → ClassId} {B : Nat} {s U : State} {H : Heap} (hvm : s.vm.Alike U.vm) (h : z_Zs cA B s H) : z_Zs cA B U H := ⟨va_Z.moved hvm h.1, h.2.moved hvm⟩
theorem z_Zs.to {cA : Nat → ClassId} {B : Nat} {s U : State} {H H1 : Heap} (hvm : s.vm.Alike U.vm) (h : z_Zs cA B s H) (hq : ∀ a : Nat, a < H.size → ¬ B ≤ a → H1[a]? = H[a]?) : z_Zs cA B U H1 := ⟨va_Z.kept (va_Z.moved hvm h.1) hq, h.2.moved hvm⟩
def z_Cx (p : Program) (s : State) (m : MethodId) (args : Array Value) (meth : Method) (c : Code) (cc : ByteArray) (nL : Nat) (D : va_G) (cA : Nat → ClassId) (B : Nat) (H0 : Heap) (own : String) (ini : Bool) : Prop :=
  p.tables.exec = Jvm.exec ∧ c.code = cc ∧ c.maxLocals = nL ∧ s.vm.findClass own = some m.cls ∧ (∀ w ∈ z_wd, w.before args s = true) ∧ z_N s ∧ va_K D z_cl (z_tys cA) s ∧ B ≤ H0.size ∧ (ini = true → meth.name = "<init>") ∧ z_Zs cA B s H0
/-- a field is read -/
theorem z_get (X : z_Cx p s m args meth c cc nL D cA B H0 own ini) {H : Heap} {locs : List Loc} {cells slots : Nat} {σ : bS} {d k u a pc : Nat} {ls : Array Slot} {rest : List Value} {v : Value} (hF : z_flk own u d k) (hok : z_ok D cA B σ H) (ht : z_t σ a = d + 1) (hv : z_f σ d k a = v) (hd : decode cc pc = .ok (.getfield u, 3))
    (kk : W p l e R s m args below meth c H locs cells slots Q (F0 m (pc + 3) ls (v :: rest))) : W p l e R s m args below meth c H locs cells slots Q (F0 m pc ls (.ref a :: rest)) := by
  obtain ⟨hx, hb, -, hown, hts, hN, hK, -, -, -⟩ := X
  obtain ⟨C, T, N, ref, hc, hk, hlk, hsm⟩ := hF
  have hP := z_sing (hok.2.1 a _ (z_e_o ht hc (z_lt20 hc)))
  have hv2 : (z_fs σ d N a)[k]? = some v := by rw [z_fs_at hk, hv]
  have hsame : ∀ x, s.fieldFound? (T k).1 (T k).2.1 (T k).2.2.1 = some x → s.fieldFound? ref (T k).2.1 (T k).2.2.1 = some x := by
    rcases hsm with h | h
    · intro x hx; rw [h]; exact hx
    · exact fun x hx => u_same (hts _ h) x hx
  rcases hlk with ⟨host, h⟩ | h
  · exact va_getN (D := D) (ci := d) (v := v) (C := C) (T := T) (N := N) hx hb hts (z_uw d _ hc) hown hK hP 0 rfl hc k hk (hN.nest h rfl args) hsame hv2 hd kk
  · exact va_get (D := D) (ci := d) (v := v) (C := C) (T := T) (N := N) hx hb hts (z_uw d _ hc) hown hK hP 0 rfl hc k hk (hts _ h) hsame hv2 hd kk
/-- a field is written -/
theorem z_put (X : z_Cx p s m args meth c cc nL D cA B H0 own ini) {H : Heap} {locs : List Loc} {cells slots : Nat} {σ σ' : bS} {d k u a pc : Nat} {ls : Array Slot} {rest : List Value} {v : Value} (hF : z_flk own u d k) (hok : z_ok D cA B σ H) (hS0 : va_S (fun q => B ≤ q) H0 H locs) (ht : z_t σ a = d + 1)
    (hv : (z_k d k = true ∧ ∃ x, v = .int x) ∨ (z_k d k = false ∧ ∃ r, v = va_rf r)) (hfi : z_fin d k = false ∨ (ini = true ∧ z_dcl d k = own)) (h1 : z_t σ' = z_t σ) (h2 : z_z σ' = z_z σ) (h3 : ∀ j, z_f σ' d j a = if j = k then v else z_f σ d j a) (h4 : ∀ q, q ≠ a → z_e cA σ' q = z_e cA σ q) (hn5 : ∀ q, z_n σ' q = z_n σ q ∧ z_a σ' q = z_a σ q) (hd : decode cc pc = .ok (.putfield u, 3))
    (kk : ∀ (H1 : Heap) (locs1 : List Loc), z_ok D cA B σ' H1 → va_S (fun q => B ≤ q) H0 H1 locs1 → W p l e R s m args below meth c H1 locs1 cells slots Q (F0 m (pc + 3) ls rest)) : W p l e R s m args below meth c H locs cells slots Q (F0 m pc ls (v :: .ref a :: rest)) := by
  obtain ⟨hx, hb, -, hown, hts, hN, hK, -, hin, -⟩ := X
  obtain ⟨C, T, N, ref, hc, hk, hlk, hsm⟩ := hF
  have hsame : ∀ x, s.fieldFound? (T k).1 (T k).2.1 (T k).2.2.1 = some x → s.fieldFound? ref (T k).2.1 (T k).2.2.1 = some x := by
    rcases hsm with h | h
    · intro x hx; rw [h]; exact hx
    · exact fun x hx => u_same (hts _ h) x hx
  have hzf : z_fin d k = (T k).2.2.2 := by unfold z_fin; rw [hc]
  have hzd : z_dcl d k = (T k).1 := by unfold z_dcl; rw [hc]
  have hBa : B ≤ a := hok.2.2.1 a (by rw [ht]; exact Nat.succ_ne_zero _) (by rw [ht]; have := z_lt20 hc; omega) (by rw [ht]; have := z_lt20 hc; omega)
  have hap := va_apart (own := own) hts (z_uw d _ hc) (z_tyc d) (z_tyok d _ hc) (z_nmok d _ hc) hK hc
  obtain ⟨r, hr1, cell, q1, q2, q3, q4⟩ := hok.2.1 a _ (z_e_o ht hc (z_lt20 hc))
  have hr : r = (C, T, N) := Option.some.inj (hr1.symm.trans hc)
  subst hr
  obtain ⟨hSl, hfc, kC, hkC, hkind⟩ := hK.1 d _ hc
  obtain ⟨cf, kf, fi, f, hi, hsl⟩ := hSl k hk
  have hlay := hts _ (z_uw d _ hc _ (u_in_lay hk))
  have hst := (u_facts hfc hkC (u_lays hts (z_uw d _ hc) hk) hi).1
  have hdesc := z_tyok d _ hc k hk
  have hnf : narrow (z_tyc d k) v = v ∧ fits (z_tyc d k) v = true := by
    rcases z_tyk d _ hc k hk with ⟨a1, a2⟩ | ⟨a1, a2⟩
    · rcases hv with ⟨-, x, rfl⟩ | ⟨b1, -⟩
      · rw [a2]; exact ⟨rfl, rfl⟩
      · rw [a1] at b1; cases b1
    · rcases hv with ⟨b1, -⟩ | ⟨-, x, rfl⟩
      · rw [a1] at b1; cases b1
      · rcases a2 with ⟨C2, a2⟩ | ⟨t2, a2⟩ <;> rw [a2] <;> cases x <;> exact ⟨rfl, rfl⟩
  have fin : ∀ H' : Heap, H'[a]? = some (cell.setSlot f.slot v) → H'.size = H.size → (∀ q : Nat, q ≠ a → H'[q]? = H[q]?) → z_ok D cA B σ' H' := by
    intro H' e1 e2 e3
    refine z_ok_set hok e2 e3 h1 h2 (fun e2 he2 => ?_) h4 ⟨by rw [ht]; have := z_lt20 hc; omega, by rw [ht]; have := z_lt20 hc; omega⟩ (fun q _ => hn5 q)
    rw [z_e_o (by rw [h1]; exact ht) hc (z_lt20 hc)] at he2
    cases he2
    rw [hsl] at e1
    refine ⟨_, hc, t_OB.to (V := updV (vp_V (z_fs σ d N a)) k v) ⟨_, e1, q2, q3, t_set q4 hap hk v⟩ (fun j hj => ?_)⟩
    rw [z_fs_V hj, h3 j]
    unfold updV
    by_cases hjk : j = k
    · rw [if_pos hjk, if_pos hjk]
    · rw [if_neg hjk, if_neg hjk, z_fs_V hj]
  have hS1 : ∀ H' : Heap, H'.size = H.size → (∀ q : Nat, q ≠ a → H'[q]? = H[q]?) → va_S (fun q => B ≤ q) H0 H' (locs ++ [⟨a, f.slot⟩]) := fun H' e2 e3 => hS0.put e2 e3 hBa
  have hcl : f.slot < cell.slots.size := by rw [hsl]; exact k2_hasslot (q4 k hk)
  by_cases hfin : (T k).2.2.2 = true
  · obtain ⟨hini, hdecl⟩ : ini = true ∧ z_dcl d k = own := by
      rcases hfi with h | h
      · rw [hzf, hfin] at h; cases h
      · exact h
    rw [hzd] at hdecl
    unfold u_lay at hlay
    rw [if_pos hfin] at hlay
    have hcf : m.cls = cf := by
      obtain ⟨_, _, c', _, _, _, -, -, hf', -, -, -, hown2, -⟩ := Cond.laysFinal_spec hlay
      have e1 : c' = cf := by have := hi.symm.trans hf'; simp at this; exact this.1.symm
      rw [hdecl] at hown2
      rw [← e1]; exact Option.some.inj (hown.symm.trans hown2)
    have h6 := u_fits hfc hkC hkind (Or.inr hlay) hi hdesc hnf.1 hnf.2
    rcases hlk with ⟨host, h⟩ | h
    · refine va_Wputf hx hb hown (hN.nest h rfl args) (hsame _ hi) hst (Or.inr ⟨hcf, hin hini⟩) q1 (by rw [q3]; exact fun h => by cases h) hcl h6.1 (by rw [q2, q3]; exact h6.2) rfl rfl hd ?_
      have ha : a < H.size := (Array.getElem?_eq_some_iff.mp q1).1
      exact kk _ _ (fin _ (by simp [Array.getElem?_setIfInBounds, ha]) (by simp) (fun q hq => by simp [Array.getElem?_setIfInBounds, Ne.symm hq])) (hS1 _ (by simp) (fun q hq => by simp [Array.getElem?_setIfInBounds, Ne.symm hq]))
    · exact W.putFinK hx hb hown (hts _ h) (hsame _ hi) hst hcf (hin hini) (by rw [q2]; exact h6) q1 q3 hcl rfl rfl hd fun H' e1 e2 e3 => kk H' _ (fin H' e1 e2 e3) (hS1 H' e2 e3)
  · unfold u_lay at hlay
    rw [if_neg hfin] at hlay
    have h6 := u_store hfc hkC hkind hlay hi hdesc hnf.1 hnf.2
    rcases hlk with ⟨host, h⟩ | h
    · exact va_WputK hx hb (f := f) hown (hN.nest h rfl args) (hsame _ hi) hst (by rw [q2]; exact h6) q1 q3 hcl rfl rfl hd fun H' e1 e2 e3 => kk H' _ (fin H' e1 e2 e3) (hS1 H' e2 e3)
    · exact W.putK hx hb (f := f) ⟨hown, hts _ h, ⟨_, _, _, hsame _ hi⟩, hst⟩ (by rw [q2]; exact h6) q1 q3 hcl rfl rfl hd fun H' e1 e2 e3 => kk H' _ (fin H' e1 e2 e3) (hS1 H' e2 e3)
end ZS
