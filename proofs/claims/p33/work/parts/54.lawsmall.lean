/-! ===== Math.abs of a double, by hand ===== -/
abbrev c_dabs : ByteArray := prog_21_method_64_code
abbrev y_dabs : MethodName := ⟨"java/lang/Math", "abs", "(D)D"⟩
def zd_row : NativeRow := (NativeRow.find? Native.java_lang_Math.nans.rows "java/lang/Math" "abs" "(D)D").get (by decide +kernel)
set_option maxRecDepth 100000 in
theorem zd_find (p : Program) : NativeRow.find? p.tables.natives "java/lang/Math" "abs" "(D)D" = some zd_row := by
  cases p <;> rfl
theorem zd_run {a : UInt64} (ha : vf_n64 a) (e : Env) (S : State) : ∃ acts, (zd_row.sem #[.double a]).run e S = .ok (some (.double (a &&& 0x7fffffffffffffff))) S acts := by
  have hn : (a &&& 0x7fffffffffffffff) &&& 0x7fffffffffffffff ≤ 0x7ff0000000000000 := by rw [UInt64.and_assoc, UInt64.and_self]; exact ha
  have hsem : zd_row.sem #[.double a] = (do
      let r ← anyNaN64 (a &&& 0x7fffffffffffffff)
      mark "nat.java_lang_Math.abs"
      Pure.pure (some (.double r))) := rfl
  have key : wpRun (zd_row.sem #[.double a]) (fun v s₂ _ => v = some (.double (a &&& 0x7fffffffffffffff)) ∧ s₂ = S) (fun _ _ _ => False) e S := by
    rw [hsem]
    simp [jvm, wpRun, anyNaN64, hn]
  have key2 := (wpRun_iff_run _ _ _ _ _).mp key
  cases hr : (zd_row.sem #[.double a]).run e S with
  | ok v s₂ acts =>
    rw [hr] at key2
    obtain ⟨rfl, rfl⟩ := key2
    exact ⟨acts, rfl⟩
  | ctl x s₂ acts =>
    rw [hr] at key2
    cases x <;> exact key2.elim
def p_dabs : zPT := fun as σ K => match as with
  | [.double x] => vf_n64 x ∧ K (some (.double (x &&& 0x7fffffffffffffff))) σ
  | _ => False
section ZDA
variable {p : Program} {l : Launch} {e : Env} {R : Room} {s : State} {m : MethodId} {args : Array Value} {below : List Frame} {meth : Method} {c : Code} {H : Heap} {locs : List Loc} {cells slots : Nat} {Q : State → Prop}
variable {cc : ByteArray} {pc : Nat} {ls : Array Slot} {rest : List Value}
theorem z_W_dabs (hexec : p.tables.exec = Jvm.exec) (hb : c.code = cc) (hml : c.maxLocals = ls.size) {own : String} {index : Nat} (hown : s.vm.findClass own = some m.cls) (hlink : (Cond.methodLink own index y_dabs).before args s = true) (hstat : (Cond.static y_dabs).before args s = true) (hini : (Cond.initialized "java/lang/Math").before args s = true) (hcode : (Cond.code y_dabs c_dabs 2 (some .double)).before args s = true)
    {a : UInt64} (ha : vf_n64 a) (hframes : 1 ≤ R.frames) (hlocals : (rest.map fun v => v.category).sum + 13 ≤ R.locals) (hc : cells ≤ R.cells) (hs : slots ≤ R.slots) (hdg : decode cc pc = .ok (.invokestatic index, 3))
    (kk : W p l e R s m args below meth c H locs cells slots Q (F0 m (pc + 3) ls (.double (a &&& 0x7fffffffffffffff) :: rest))) : W p l e R s m args below meth c H locs cells slots Q (F0 m pc ls (.double a :: rest)) := by
  intro T hT X
  obtain ⟨mk, hnamed⟩ := Cond.code_named hcode
  obtain ⟨methM, cM, hmethM, hcodeM, -, hlocalsM, -, hlocksM, -, hsigM⟩ := Cond.code_spec hnamed hcode
  have hstatic := Cond.static_spec hnamed hmethM hstat
  obtain ⟨kP, hkP, hkn⟩ := className_of_methodNamed hnamed
  obtain ⟨hmn, hmd⟩ := name_of_methodNamed hnamed hmethM
  have hinitP : kP.init = .initialized := Cond.initialized_spec (findClass_of_methodNamed hnamed) hkP hini
  have hdesc : parseMethodDescriptor "(D)D" = some { parameters := [.double], returnType := some .double } := by decide +kernel
  have hpar : methM.sig.parameters.length = 1 := by
    have h3 : parseMethodDescriptor "(D)D" = some methM.sig := hsigM
    rw [hdesc] at h3
    rw [← Option.some.inj h3]
    rfl
  obtain ⟨vm1, X1, step1⟩ := X.invokestatic hexec hown hlink hnamed hmethM hstatic hkP hinitP (by decide) (g := F0 m pc ls (.double a :: rest)) rfl (argsL := [.double a]) (rest := rest) (by rw [hpar]; rfl) rfl (by rw [hb]; exact hdg)
  obtain ⟨t, a1, b1⟩ := kk (T.setVm vm1) hT X1
  refine ⟨t, step1 t (fun acts => ?_), b1⟩
  obtain ⟨kQ, hkQ, heQ⟩ := X1.warmed.alike.2.2 _ _ hkP
  have hkS : (T.setVm vm1).vm.classes[mk.cls]? = some kQ := hkQ
  have hmS : (T.setVm vm1).vm.method? mk = some methM := by
    rw [X1.warmed.alike.method?]
    exact hmethM
  have hkQn : kQ.name = "java/lang/Math" := by rw [heQ]; exact hkn
  have hkPl : kP.loader = none := Vm.bootOf_findClass (findClass_of_methodNamed hnamed) hkP
  have hkQl : kQ.loader = none := by rw [heQ]; exact hkPl
  have hkQm : kQ.methods[mk.idx]? = some methM := by
    rw [heQ]
    simpa [Vm.method?, hkP] using hmethM
  have hroom := X1.room_calling (g := F0 m pc ls rest) (R' := {}) (args' := #[.double a]) (by show ls.size = _; rw [hml]) hmS hcodeM (by show 0 + 1 ≤ R.frames; omega) (by rw [hlocalsM]; show 2 * 0 + (rest.map fun v => v.category).sum + (2 + 11) + 0 ≤ R.locals; omega) (by show cells + 0 ≤ R.cells; omega) (by show slots + 0 ≤ R.slots; omega)
  have htopS := X1.here.top
  obtain ⟨mid0, hmid⟩ := X1.here.above
  have hrun := X1.here.running
  have hable := X1.here.runnable
  have halone := X1.here.alone
  have hcodeS : (T.setVm vm1).code? m = some c := X1.here.code
  generalize hS : T.setVm vm1 = S at *
  obtain ⟨g0, hg0⟩ := Option.isSome_iff_exists.mp htopS
  obtain ⟨r, hr⟩ := State.topJava?_eq_some.mp hg0
  have hcur : S.cur < S.threads.size := State.cur_lt_of_frames hr
  have hset : ∀ g : JFrame, S.setTop g = S.setFrames (.java g :: r) := fun g => State.setTop_of_frames _ hr
  have hfull : e.platform.stackFull (S.setTop (F0 m pc ls rest)).me (S.setTop (F0 m pc ls rest)).frames cM.maxLocals = false := by
    obtain ⟨-, r2, -, r4⟩ := State.hasRoom_stack hroom
    have hfc := State.frames_calling htopS (F0 m pc ls rest) mk #[.double a]
    rw [State.localsInUse_invoking hfc (meth := methM) (c := cM) hmS hcodeM, hr] at r4
    rw [hfc, hr] at r2
    rw [State.calling_eq htopS, State.stackLimits_setFrames] at r2 r4
    have hw := stackUse_le_stackWeight (.java (F0 m pc ls rest) :: r)
    have z1 : ({} : Room).frames = 0 := rfl
    have z2 : ({} : Room).locals = 0 := rfl
    rw [hset, State.frames_setFrames _ hcur]
    simp only [List.length_cons, List.tail_cons] at r2 r4
    refine Platform.stackFull_eq_false ?_ ?_
    · rw [State.stackLimits_setFrames]
      simp only [List.length_cons]
      omega
    · rw [State.stackLimits_setFrames]
      omega
  show Steps p.tables e below (doInvoke e (S.setTop (F0 m pc ls rest)) acts mk #[.double a]).1 t
  rw [(doInvoke_java (s := S.setTop (F0 m pc ls rest)) (e := e) (acts := acts) (args := #[.double a]) (meth := methM) (code := cM) hmS hcodeM hlocksM hfull).1, hlocalsM]
  have hpush : (S.setTop (F0 m pc ls rest)).pushFrame (.java { method := mk, pc := 0, locals := argsToLocals #[.double a] 2, stack := [], locked := none }) = S.setFrames (.java (entryFrame mk #[.double a] 2) :: .java (F0 m pc ls rest) :: r) := by
    rw [State.pushFrame, State.frames_setTop _ hr, hset, State.setFrames_setFrames]
    rfl
  rw [hpush]
  have hfr : (S.setFrames (.java (entryFrame mk #[.double a] 2) :: .java (F0 m pc ls rest) :: r)).frames = .java (entryFrame mk #[.double a] 2) :: .java (F0 m pc ls rest) :: r := State.frames_setFrames _ hcur
  have hov : overridden p.tables e (S.setFrames (.java (entryFrame mk #[.double a] 2) :: .java (F0 m pc ls rest) :: r)) (entryFrame mk #[.double a] 2) = some zd_row := by
    have hk9 : S.vm.classes[(entryFrame mk #[.double a] 2).method.cls]? = some kQ := hkS
    have hm9 : kQ.methods[(entryFrame mk #[.double a] 2).method.idx]? = some methM := hkQm
    have hpc9 : (entryFrame mk #[.double a] 2).pc = 0 := rfl
    unfold overridden
    rw [hpc9]
    simp [hk9, hm9, hkQn, hkQl, hmn, hmd, overriddenIn, zd_find]
  obtain ⟨acts2, hrun2⟩ := zd_run ha e (S.setFrames (.native { method := mk, args := #[.double a] } :: .java (F0 m pc ls rest) :: r))
  have hcode9 : ∀ F : List Frame, (S.setFrames F).code? m = some c := by
    intro F
    rw [State.code?_eq] at hcodeS ⊢
    simpa [State.setFrames] using hcodeS
  have hb9 : (S.vm.classes[mk.cls]?.bind fun y => y.methods[mk.idx]?) = some methM := by
    rw [hkS]
    exact hkQm
  have hdg9 : decode c.code pc = .ok (.invokestatic index, 3) := by rw [hb]; exact hdg
  have hhand : handOver (S.setFrames (.native { method := mk, args := #[.double a] } :: .java (F0 m pc ls rest) :: r)) (some (.double (a &&& 0x7fffffffffffffff))) (.java (F0 m pc ls rest) :: r) = some (.java (F0 m (pc + 3) ls (.double (a &&& 0x7fffffffffffffff) :: rest)) :: r) := by
    simp [handOver, F0, hcode9, hdg9, Except.toOption]
  have htake : ∀ n : Nat, List.take (1 + n) [Value.double a] = [Value.double a] := fun n => List.take_of_length_le (Nat.le_add_right 1 n)
  have hst2 : (stepThread p.tables e (S.setFrames (.java (entryFrame mk #[.double a] 2) :: .java (F0 m pc ls rest) :: r))).1 = S.setTop (F0 m (pc + 3) ls (.double (a &&& 0x7fffffffffffffff) :: rest)) := by
    unfold stepThread
    simp only [hfr, hov]
    simp [entryFrame, argsToLocals, Value.category, argCount, hb9, hpar, htake, hrun2, afterNative]
    rw [doReturn_native (f := { method := mk, args := #[.double a] }) (below := .java (F0 m pc ls rest) :: r) (State.frames_setFrames _ hcur) rfl hhand, State.setFrames_setFrames, ← hset]
  refine Steps.head ⟨hrun, by simpa using hable, by simpa using halone⟩ ⟨.java (entryFrame mk #[.double a] 2) :: .java (F0 m pc ls rest) :: mid0, by rw [hfr]; rw [hr] at hmid; simp at hmid; simp [hmid], by simp, by simp⟩ ?_
  rw [hst2]
  exact a1
end ZDA
theorem z_P_dabs {l : Launch} {own : String} {cc : ByteArray} {nL u : Nat} {R : Room} (hlk : Cond.methodLink own u y_dabs ∈ z_wd) (h1 : 1 ≤ R.frames) (h2 : 21 ≤ R.locals) : z_CallP l own cc nL R (4 * u + 2, 1, p_dabs, 0, 0) := by
  intro p e s m args below meth c Q D cA B H0 ini X i pc lv st σ cells slots K hkey hdg g1 g2 g3 g4 g5 hgo H ls locs hok hl hS
  obtain ⟨hx, hb, hml, hown, hts, hN, hK, hBH, -, -⟩ := X
  obtain rfl : i = .invokestatic u := by
    rcases hkey with ⟨k, rfl, hk⟩ | ⟨k, rfl, hk⟩ | ⟨k, rfl, hk⟩
    · have := hk; simp only at this; omega
    · have := hk; simp only at this; omega
    · have : k = u := by have := hk; simp only at this; omega
      rw [this]
  dsimp only at g1 g2 g3 g4 g5 hgo
  generalize has : (st.take 1).reverse = as at g5
  unfold p_dabs at g5
  split at g5
  · rename_i x
    have hst : st = .double x :: st.drop 1 := by
      have := z_take has
      simpa using this
    have hi1 : Cond.static y_dabs ∈ z_wd := z_in 919 (by decide +kernel) (by decide +kernel)
    have hi2 : Cond.code y_dabs c_dabs 2 (some .double) ∈ z_wd := z_in 920 (by decide +kernel) (by decide +kernel)
    have hi3 : Cond.initialized "java/lang/Math" ∈ z_wd := z_in 72 (by decide +kernel) (by decide +kernel)
    have hc9 : ((st.drop 1).map fun v => v.category).sum ≤ 8 := g4
    rw [hst]
    exact z_W_dabs hx hb (hml.trans hl.1.symm) hown (hts _ hlk) (hts _ hi1) (hts _ hi3) (hts _ hi2) g5.1 h1 (by omega) g2 g3 hdg (hgo (some _) σ g5.2 H ls locs hok hl hS)
  · exact g5.elim
/-! ===== the law's small methods ===== -/
/-- a cell's low bits, below n -/
def m_bel (v n : Int32) : Int32 := (v &&& Int32.ofNat 2147483647) - (v &&& Int32.ofNat 2147483647) / n * n
def pL_below : zPT := fun as σ K => match as with
  | [.int v, .int n] => ¬ n = 0 ∧ K (some (.int (m_bel v n))) σ
  | _ => False
abbrev rL_below : Room := { frames := 0, cells := 0, slots := 0, locals := 0 }
def clL_below : List zC := []
set_option maxRecDepth 20000 in
theorem kL_below (l : Launch) : ∀ q ∈ clL_below, z_CallP l RL cL_below 2 rL_below q := by
  intro q hq
  cases hq
set_option maxHeartbeats 4000000 in
set_option maxRecDepth 20000 in
theorem gL_below : ∀ (as : List Value) (σ : bS) (Kp : Option Value → bS → Prop), pL_below as σ Kp → ∀ K : zK, z_Cl tL_below clL_below (fun v σ c n => Kp v σ ∧ c ≤ 0 ∧ n ≤ 0) 0 0 1 K → K 0 (lv_args 0 as) [] σ 0 0 := by
  intro as σ Kp hp K hK
  unfold pL_below at hp
  split at hp
  · rename_i v n
    obtain ⟨h1, hp⟩ := hp
    refine hK.1 [] 60 _ _ _ _ _ _ ?_
    simp only [ze_iconst, ze_bipush, ze_sipush, ze_lconst, ze_dconst, ze_aconst_null, ze_ldc, ze_ldc_w, ze_ldc2_w, ze_ldc2_w1, ze_iload, ze_iload_n, ze_lload, ze_lload_n, ze_aload, ze_aload_n, ze_istore, ze_istore_n, ze_lstore, ze_lstore_n, ze_astore, ze_astore_n, ze_iinc, ze_iadd, ze_isub, ze_imul, ze_iand, ze_ior, ze_ixor, ze_ishl, ze_ishr, ze_idiv, ze_irem, ze_ineg, ze_ladd, ze_lsub, ze_lmul, ze_ldiv, ze_lcmp, ze_i2l, ze_l2i, ze_i2d, ze_ddiv, ze_dmul, ze_dsub, ze_dcmp, ze_dup, ze_pop, ze_dup_x1, ze_dup2, ze_goto, ze_ifnull, ze_ifnonnull, ze_getfield, ze_getfield1, ze_putfield, ze_putfield1, ze_iaload, ze_aaload, ze_iastore, ze_aastore, ze_getstatic, ze_arraylength, ze_new, ze_newarray, ze_anewarray, ze_checkcast, ze_invokevirtual, ze_invokespecial, ze_invokestatic, ze_ireturn, ze_lreturn, ze_dreturn, ze_areturn, ze_return_, ze_tableswitch, ze_ifCond_eq, ze_ifCond_ne, ze_ifCond_lt, ze_ifCond_ge, ze_ifCond_gt, ze_ifCond_le, ze_if_icmp_eq, ze_if_icmp_ne, ze_if_icmp_lt, ze_if_icmp_ge, ze_if_icmp_gt, ze_if_icmp_le, ze_acmp_eq, ze_acmp_ne, zs_ldi, zs_ldl, zs_lda, zs_inc, zs_sw0, zs_sw, zs_cb, zs_cb0, zs_inv0, zs_inv1, zs_inv2, zs_inv3, zs_inv4, zs_inv5, zs_inv6, zs_gl, zs_rm0, zs_rm, zs_rm20, zs_rm2, zs_p0, zs_p00, zs_gl0, zs_pk0, zs_pk, zs_fc, zs_ck0, zs_ck, zs_cat0, zs_cat, zs_ci, zs_cl, zs_cd, zs_cr, zs_cn, zs_cf, zs_cu, zs_cu0, zs_wp, zs_wp0, z_rf_ref, z_rf_null, z_rf_rf, z_o_ref, z_o_null, z_o_rf, va_rf_some, va_rf_none, zc_om1, zc_o0, zc_o1, zc_o2, zc_o3, zc_o4, zc_o5, zc_o6, zc_o7, zc_o8, zc_om4, zc_bm2, zc_b6, zc_b7, zc_b8, zc_b9, zc_b10, zc_b11, zc_b12, zc_b14, zc_b15, zc_b16, zc_b17, zc_b18, zc_b20, zc_b21, zc_b22, zc_b24, zc_b30, zc_b40, zc_b41, zc_b60, zc_b63, zc_b64, zc_b66, zc_b76, zc_nI, if_pos, if_neg, reduceIte, Nat.reduceAdd, Nat.reduceMul, Nat.reduceSub, Nat.reduceEqDiff, Nat.reduceLeDiff, Nat.reduceBEq, and_true, true_and, or_true, true_or, or_false, false_or, and_false, false_and, and_self, or_self, implies_true, forall_const, not_true_eq_false, not_false_eq_true, reduceCtorEq, Nat.zero_add, Nat.add_zero, Nat.add_eq_right, Nat.add_right_cancel_iff, Nat.succ_ne_zero, Nat.le_refl, true_implies, false_implies, Option.some.injEq, zc_f0, zc_f1, zc_f2, zc_f3, zs_args, zs_args0, List.length_cons, List.length_nil, z_t_wi, z_i_wi, z_r_wi, z_n_wi, z_a_wi, z_q_wi, z_z_wi, z_t_wr, z_i_wr, z_r_wr, z_n_wr, z_a_wr, z_q_wr, z_z_wr, z_t_wa, z_i_wa, z_r_wa, z_n_wa, z_a_wa, z_q_wa, z_z_wa, z_t_wq, z_i_wq, z_r_wq, z_n_wq, z_a_wq, z_q_wq, z_z_wq, z_t_nw, z_i_nw, z_r_nw, z_n_nw, z_a_nw, z_q_nw, z_z_nw, z_t_uq, z_i_uq, z_r_uq, z_n_uq, z_a_uq, z_z_uq, z_q_uq, ↓zs_PV, zs_rcv, hL_below_0, hL_below_1, hL_below_3, hL_below_4, hL_below_5, hL_below_6, clL_below]
    exact ⟨h1, hp⟩
  · exact hp.elim
theorem ctL_below (l : Launch) : z_Ct l yL_below cL_below 2 (some .int) rL_below pL_below 0 0 := z_Ct_of (T := tL_below) (cl := clL_below) (rk := 1) (by decide +kernel) false (fun h => by first | rfl | cases h) oL_below (by first | exact Or.inl ⟨rfl, rfl⟩ | exact Or.inr (Or.inl ⟨rfl, rfl⟩) | exact Or.inr (Or.inr (Or.inl ⟨rfl, rfl⟩)) | exact Or.inr (Or.inr (Or.inr (Or.inl ⟨rfl, rfl⟩))) | exact Or.inr (Or.inr (Or.inr (Or.inr (Or.inl ⟨rfl, rfl⟩)))) | exact Or.inr (Or.inr (Or.inr (Or.inr (Or.inr ⟨rfl, Or.inl ⟨_, rfl⟩⟩)))) | exact Or.inr (Or.inr (Or.inr (Or.inr (Or.inr ⟨rfl, Or.inr ⟨_, rfl⟩⟩))))) rfl rfl (kL_below l) (by intro as σ K h; unfold pL_below at h; split at h <;> first | (simp [lg_sl, Value.category]; done) | exact h.elim) gL_below
/-- the script: an array of ints -/
def m_cel (S : Nat → Int32) (len k : Nat) : Int32 := if k < len then S k else Int32.ofNat 790386105 * (nI k + 3)
def pL_cell : zPT := fun as σ K => match as with
  | [.ref a, .int k] => ∃ (S : Nat → Int32) (len j : Nat), (z_t σ a = 21 ∨ z_t σ a = 31) ∧ z_n σ a = len ∧ len < 100000 ∧ (∀ i, i < len → z_a σ a i = S i) ∧ k = nI j ∧ j < 100000 ∧ K (some (.int (m_cel S len j))) σ
  | _ => False
abbrev rL_cell : Room := { frames := 0, cells := 0, slots := 0, locals := 0 }
def clL_cell : List zC := []
set_option maxRecDepth 20000 in
theorem kL_cell (l : Launch) : ∀ q ∈ clL_cell, z_CallP l RL cL_cell 2 rL_cell q := by
  intro q hq
  cases hq
set_option maxHeartbeats 4000000 in
set_option maxRecDepth 20000 in
theorem gL_cell : ∀ (as : List Value) (σ : bS) (Kp : Option Value → bS → Prop), pL_cell as σ Kp → ∀ K : zK, z_Cl tL_cell clL_cell (fun v σ c n => Kp v σ ∧ c ≤ 0 ∧ n ≤ 0) 0 0 1 K → K 0 (lv_args 0 as) [] σ 0 0 := by
  intro as σ Kp hp K hK
  unfold pL_cell at hp
  split at hp
  · rename_i a k
    obtain ⟨S, len, j, ht, hn, hlen, hS, rfl, hj, hp⟩ := hp
    have hc : (nI j).toNatClampNeg = j := nI_clamp (by omega)
    unfold m_cel at hp
    refine hK.1 [] 60 _ _ _ _ _ _ ?_
    simp only [ze_iconst, ze_bipush, ze_sipush, ze_lconst, ze_dconst, ze_aconst_null, ze_ldc, ze_ldc_w, ze_ldc2_w, ze_ldc2_w1, ze_iload, ze_iload_n, ze_lload, ze_lload_n, ze_aload, ze_aload_n, ze_istore, ze_istore_n, ze_lstore, ze_lstore_n, ze_astore, ze_astore_n, ze_iinc, ze_iadd, ze_isub, ze_imul, ze_iand, ze_ior, ze_ixor, ze_ishl, ze_ishr, ze_idiv, ze_irem, ze_ineg, ze_ladd, ze_lsub, ze_lmul, ze_ldiv, ze_lcmp, ze_i2l, ze_l2i, ze_i2d, ze_ddiv, ze_dmul, ze_dsub, ze_dcmp, ze_dup, ze_pop, ze_dup_x1, ze_dup2, ze_goto, ze_ifnull, ze_ifnonnull, ze_getfield, ze_getfield1, ze_putfield, ze_putfield1, ze_iaload, ze_aaload, ze_iastore, ze_aastore, ze_getstatic, ze_arraylength, ze_new, ze_newarray, ze_anewarray, ze_checkcast, ze_invokevirtual, ze_invokespecial, ze_invokestatic, ze_ireturn, ze_lreturn, ze_dreturn, ze_areturn, ze_return_, ze_tableswitch, ze_ifCond_eq, ze_ifCond_ne, ze_ifCond_lt, ze_ifCond_ge, ze_ifCond_gt, ze_ifCond_le, ze_if_icmp_eq, ze_if_icmp_ne, ze_if_icmp_lt, ze_if_icmp_ge, ze_if_icmp_gt, ze_if_icmp_le, ze_acmp_eq, ze_acmp_ne, zs_ldi, zs_ldl, zs_lda, zs_inc, zs_sw0, zs_sw, zs_cb, zs_cb0, zs_inv0, zs_inv1, zs_inv2, zs_inv3, zs_inv4, zs_inv5, zs_inv6, zs_gl, zs_rm0, zs_rm, zs_rm20, zs_rm2, zs_p0, zs_p00, zs_gl0, zs_pk0, zs_pk, zs_fc, zs_ck0, zs_ck, zs_cat0, zs_cat, zs_ci, zs_cl, zs_cd, zs_cr, zs_cn, zs_cf, zs_cu, zs_cu0, zs_wp, zs_wp0, z_rf_ref, z_rf_null, z_rf_rf, z_o_ref, z_o_null, z_o_rf, va_rf_some, va_rf_none, zc_om1, zc_o0, zc_o1, zc_o2, zc_o3, zc_o4, zc_o5, zc_o6, zc_o7, zc_o8, zc_om4, zc_bm2, zc_b6, zc_b7, zc_b8, zc_b9, zc_b10, zc_b11, zc_b12, zc_b14, zc_b15, zc_b16, zc_b17, zc_b18, zc_b20, zc_b21, zc_b22, zc_b24, zc_b30, zc_b40, zc_b41, zc_b60, zc_b63, zc_b64, zc_b66, zc_b76, zc_nI, if_pos, if_neg, reduceIte, Nat.reduceAdd, Nat.reduceMul, Nat.reduceSub, Nat.reduceEqDiff, Nat.reduceLeDiff, Nat.reduceBEq, and_true, true_and, or_true, true_or, or_false, false_or, and_false, false_and, and_self, or_self, implies_true, forall_const, not_true_eq_false, not_false_eq_true, reduceCtorEq, Nat.zero_add, Nat.add_zero, Nat.add_eq_right, Nat.add_right_cancel_iff, Nat.succ_ne_zero, Nat.le_refl, true_implies, false_implies, Option.some.injEq, zc_f0, zc_f1, zc_f2, zc_f3, zs_args, zs_args0, List.length_cons, List.length_nil, z_t_wi, z_i_wi, z_r_wi, z_n_wi, z_a_wi, z_q_wi, z_z_wi, z_t_wr, z_i_wr, z_r_wr, z_n_wr, z_a_wr, z_q_wr, z_z_wr, z_t_wa, z_i_wa, z_r_wa, z_n_wa, z_a_wa, z_q_wa, z_z_wa, z_t_wq, z_i_wq, z_r_wq, z_n_wq, z_a_wq, z_q_wq, z_z_wq, z_t_nw, z_i_nw, z_r_nw, z_n_nw, z_a_nw, z_q_nw, z_z_nw, z_t_uq, z_i_uq, z_r_uq, z_n_uq, z_a_uq, z_z_uq, z_q_uq, ↓zs_PV, zs_rcv, hL_cell_0, hL_cell_1, hL_cell_2, hL_cell_3, hL_cell_6, hL_cell_7, hL_cell_8, hL_cell_9, hL_cell_12, hL_cell_14, hL_cell_15, hL_cell_16, hL_cell_17, hL_cell_18, clL_cell, hn, hc]
    by_cases hl : j < len
    · rw [if_pos hl] at hp
      rw [hS j hl]
      exact ⟨ht.elim Or.inl (fun z => Or.inr (Or.inl z)), fun z => absurd z (nI_ge hl (by omega)), fun _ => ⟨ht, vp_in_nI hl (by omega), hp⟩⟩
    · rw [if_neg hl] at hp
      exact ⟨ht.elim Or.inl (fun z => Or.inr (Or.inl z)), fun _ => hp, fun z => absurd (nI_le (by omega) (by omega)) z⟩
  · exact hp.elim
theorem ctL_cell (l : Launch) : z_Ct l yL_cell cL_cell 2 (some .int) rL_cell pL_cell 0 0 := z_Ct_of (T := tL_cell) (cl := clL_cell) (rk := 1) (by decide +kernel) false (fun h => by first | rfl | cases h) oL_cell (by first | exact Or.inl ⟨rfl, rfl⟩ | exact Or.inr (Or.inl ⟨rfl, rfl⟩) | exact Or.inr (Or.inr (Or.inl ⟨rfl, rfl⟩)) | exact Or.inr (Or.inr (Or.inr (Or.inl ⟨rfl, rfl⟩))) | exact Or.inr (Or.inr (Or.inr (Or.inr (Or.inl ⟨rfl, rfl⟩)))) | exact Or.inr (Or.inr (Or.inr (Or.inr (Or.inr ⟨rfl, Or.inl ⟨_, rfl⟩⟩)))) | exact Or.inr (Or.inr (Or.inr (Or.inr (Or.inr ⟨rfl, Or.inr ⟨_, rfl⟩⟩))))) rfl rfl (kL_cell l) (by intro as σ K h; unfold pL_cell at h; split at h <;> first | (simp [lg_sl, Value.category]; done) | exact h.elim) gL_cell
def m_mon (ω : wS) : Nat → Nat → Int32 → Int32
  | 0, _, c => c
  | m + 1, k, c => m_mon ω m (k + 1) (c + w_O ω k 1)
def pL_money : zPT := fun as σ K => match as with
  | [.ref x] => ∃ (b : Nat) (E lg lg' og rg : Nat → Nat) (ω : wS), w_rep σ b E lg lg' og rg ω ∧ b = x ∧ K (some (.int (m_mon ω 4 0 0))) σ
  | _ => False
abbrev rL_money : Room := { frames := 5, cells := 0, slots := 0, locals := 113 }
def clL_money : List zC := [(172, 3, (z_PV 7 pX7_ofOwner), 0, 0)]
set_option maxRecDepth 20000 in
theorem kL_money (l : Launch) : ∀ q ∈ clL_money, z_CallP l RL cL_money 3 rL_money q := by
  intro q hq
  simp only [clL_money, List.mem_cons, List.not_mem_nil, or_false] at hq
  rcases hq with rfl
  · exact z_PV_V (l := l) (own := RL) (cc := cL_money) (nL := 3) (R := rL_money) (u := 43) (d := 7) (n := 2) (C := RX7) (ctX7_ofOwner l) wX7_ofOwner rfl (by intro w hw; simp only [List.mem_cons, List.not_mem_nil, or_false] at hw; rcases hw with rfl | rfl | rfl | rfl; exact z_in 788 (by decide +kernel) (by decide +kernel); exact z_in 789 (by decide +kernel) (by decide +kernel); exact z_in 790 (by decide +kernel) (by decide +kernel); exact z_in 54 (by decide +kernel) (by decide +kernel)) rfl rfl ⟨rfl, by decide, by decide, by decide +kernel⟩ ⟨by decide, by decide⟩
set_option maxHeartbeats 4000000 in
set_option maxRecDepth 20000 in
theorem gL_money : ∀ (as : List Value) (σ : bS) (Kp : Option Value → bS → Prop), pL_money as σ Kp → ∀ K : zK, z_Cl tL_money clL_money (fun v σ c n => Kp v σ ∧ c ≤ 0 ∧ n ≤ 0) 0 0 1 K → K 0 (lv_args 0 as) [] σ 0 0 := by
  intro as σ Kp hp K hK
  unfold pL_money at hp
  split at hp
  · rename_i x
    obtain ⟨b, E, lg, lg', og, rg, ω, h, rfl, hp⟩ := hp
    have t1 := h.1.1.1
    have loop : ∀ (m k : Nat) (c : Int32), k + m = 4 → m_mon ω m k c = m_mon ω 4 0 0 → K 4 [(0, .ref b), (1, .int c), (2, .int (nI k))] [] σ 0 0 := by
      intro m
      induction m with
      | zero =>
        intro k c hk he
        have he' : c = m_mon ω 4 0 0 := he
        rw [← he'] at hp
        refine hK.1 [(4, [0, 1, 2])] 60 _ _ _ _ _ _ ?_
        simp only [ze_iconst, ze_bipush, ze_sipush, ze_lconst, ze_dconst, ze_aconst_null, ze_ldc, ze_ldc_w, ze_ldc2_w, ze_ldc2_w1, ze_iload, ze_iload_n, ze_lload, ze_lload_n, ze_aload, ze_aload_n, ze_istore, ze_istore_n, ze_lstore, ze_lstore_n, ze_astore, ze_astore_n, ze_iinc, ze_iadd, ze_isub, ze_imul, ze_iand, ze_ior, ze_ixor, ze_ishl, ze_ishr, ze_idiv, ze_irem, ze_ineg, ze_ladd, ze_lsub, ze_lmul, ze_ldiv, ze_lcmp, ze_i2l, ze_l2i, ze_i2d, ze_ddiv, ze_dmul, ze_dsub, ze_dcmp, ze_dup, ze_pop, ze_dup_x1, ze_dup2, ze_goto, ze_ifnull, ze_ifnonnull, ze_getfield, ze_getfield1, ze_putfield, ze_putfield1, ze_iaload, ze_aaload, ze_iastore, ze_aastore, ze_getstatic, ze_arraylength, ze_new, ze_newarray, ze_anewarray, ze_checkcast, ze_invokevirtual, ze_invokespecial, ze_invokestatic, ze_ireturn, ze_lreturn, ze_dreturn, ze_areturn, ze_return_, ze_tableswitch, ze_ifCond_eq, ze_ifCond_ne, ze_ifCond_lt, ze_ifCond_ge, ze_ifCond_gt, ze_ifCond_le, ze_if_icmp_eq, ze_if_icmp_ne, ze_if_icmp_lt, ze_if_icmp_ge, ze_if_icmp_gt, ze_if_icmp_le, ze_acmp_eq, ze_acmp_ne, zs_ldi, zs_ldl, zs_lda, zs_inc, zs_sw0, zs_sw, zs_cb, zs_cb0, zs_inv0, zs_inv1, zs_inv2, zs_inv3, zs_inv4, zs_inv5, zs_inv6, zs_gl, zs_rm0, zs_rm, zs_rm20, zs_rm2, zs_p0, zs_p00, zs_gl0, zs_pk0, zs_pk, zs_fc, zs_ck0, zs_ck, zs_cat0, zs_cat, zs_ci, zs_cl, zs_cd, zs_cr, zs_cn, zs_cf, zs_cu, zs_cu0, zs_wp, zs_wp0, z_rf_ref, z_rf_null, z_rf_rf, z_o_ref, z_o_null, z_o_rf, va_rf_some, va_rf_none, zc_om1, zc_o0, zc_o1, zc_o2, zc_o3, zc_o4, zc_o5, zc_o6, zc_o7, zc_o8, zc_om4, zc_bm2, zc_b6, zc_b7, zc_b8, zc_b9, zc_b10, zc_b11, zc_b12, zc_b14, zc_b15, zc_b16, zc_b17, zc_b18, zc_b20, zc_b21, zc_b22, zc_b24, zc_b30, zc_b40, zc_b41, zc_b60, zc_b63, zc_b64, zc_b66, zc_b76, zc_nI, if_pos, if_neg, reduceIte, Nat.reduceAdd, Nat.reduceMul, Nat.reduceSub, Nat.reduceEqDiff, Nat.reduceLeDiff, Nat.reduceBEq, and_true, true_and, or_true, true_or, or_false, false_or, and_false, false_and, and_self, or_self, implies_true, forall_const, not_true_eq_false, not_false_eq_true, reduceCtorEq, Nat.zero_add, Nat.add_zero, Nat.add_eq_right, Nat.add_right_cancel_iff, Nat.succ_ne_zero, Nat.le_refl, true_implies, false_implies, Option.some.injEq, zc_f0, zc_f1, zc_f2, zc_f3, zs_args, zs_args0, List.length_cons, List.length_nil, z_t_wi, z_i_wi, z_r_wi, z_n_wi, z_a_wi, z_q_wi, z_z_wi, z_t_wr, z_i_wr, z_r_wr, z_n_wr, z_a_wr, z_q_wr, z_z_wr, z_t_wa, z_i_wa, z_r_wa, z_n_wa, z_a_wa, z_q_wa, z_z_wa, z_t_wq, z_i_wq, z_r_wq, z_n_wq, z_a_wq, z_q_wq, z_z_wq, z_t_nw, z_i_nw, z_r_nw, z_n_nw, z_a_nw, z_q_nw, z_z_nw, z_t_uq, z_i_uq, z_r_uq, z_n_uq, z_a_uq, z_z_uq, z_q_uq, ↓zs_PV, zs_rcv, hL_money_0, hL_money_1, hL_money_2, hL_money_3, hL_money_4, hL_money_5, hL_money_6, hL_money_9, hL_money_10, hL_money_11, hL_money_12, hL_money_13, hL_money_16, hL_money_17, hL_money_18, hL_money_21, hL_money_24, hL_money_25, clL_money]
        exact ⟨fun _ => hp, fun z => absurd (nI_le (a := 4) (b := k) (by omega) (by omega)) z⟩
      | succ m ih =>
        intro k c hk he
        refine hK.1 [(4, [0, 1, 2])] 60 _ _ _ _ _ _ ?_
        simp only [ze_iconst, ze_bipush, ze_sipush, ze_lconst, ze_dconst, ze_aconst_null, ze_ldc, ze_ldc_w, ze_ldc2_w, ze_ldc2_w1, ze_iload, ze_iload_n, ze_lload, ze_lload_n, ze_aload, ze_aload_n, ze_istore, ze_istore_n, ze_lstore, ze_lstore_n, ze_astore, ze_astore_n, ze_iinc, ze_iadd, ze_isub, ze_imul, ze_iand, ze_ior, ze_ixor, ze_ishl, ze_ishr, ze_idiv, ze_irem, ze_ineg, ze_ladd, ze_lsub, ze_lmul, ze_ldiv, ze_lcmp, ze_i2l, ze_l2i, ze_i2d, ze_ddiv, ze_dmul, ze_dsub, ze_dcmp, ze_dup, ze_pop, ze_dup_x1, ze_dup2, ze_goto, ze_ifnull, ze_ifnonnull, ze_getfield, ze_getfield1, ze_putfield, ze_putfield1, ze_iaload, ze_aaload, ze_iastore, ze_aastore, ze_getstatic, ze_arraylength, ze_new, ze_newarray, ze_anewarray, ze_checkcast, ze_invokevirtual, ze_invokespecial, ze_invokestatic, ze_ireturn, ze_lreturn, ze_dreturn, ze_areturn, ze_return_, ze_tableswitch, ze_ifCond_eq, ze_ifCond_ne, ze_ifCond_lt, ze_ifCond_ge, ze_ifCond_gt, ze_ifCond_le, ze_if_icmp_eq, ze_if_icmp_ne, ze_if_icmp_lt, ze_if_icmp_ge, ze_if_icmp_gt, ze_if_icmp_le, ze_acmp_eq, ze_acmp_ne, zs_ldi, zs_ldl, zs_lda, zs_inc, zs_sw0, zs_sw, zs_cb, zs_cb0, zs_inv0, zs_inv1, zs_inv2, zs_inv3, zs_inv4, zs_inv5, zs_inv6, zs_gl, zs_rm0, zs_rm, zs_rm20, zs_rm2, zs_p0, zs_p00, zs_gl0, zs_pk0, zs_pk, zs_fc, zs_ck0, zs_ck, zs_cat0, zs_cat, zs_ci, zs_cl, zs_cd, zs_cr, zs_cn, zs_cf, zs_cu, zs_cu0, zs_wp, zs_wp0, z_rf_ref, z_rf_null, z_rf_rf, z_o_ref, z_o_null, z_o_rf, va_rf_some, va_rf_none, zc_om1, zc_o0, zc_o1, zc_o2, zc_o3, zc_o4, zc_o5, zc_o6, zc_o7, zc_o8, zc_om4, zc_bm2, zc_b6, zc_b7, zc_b8, zc_b9, zc_b10, zc_b11, zc_b12, zc_b14, zc_b15, zc_b16, zc_b17, zc_b18, zc_b20, zc_b21, zc_b22, zc_b24, zc_b30, zc_b40, zc_b41, zc_b60, zc_b63, zc_b64, zc_b66, zc_b76, zc_nI, if_pos, if_neg, reduceIte, Nat.reduceAdd, Nat.reduceMul, Nat.reduceSub, Nat.reduceEqDiff, Nat.reduceLeDiff, Nat.reduceBEq, and_true, true_and, or_true, true_or, or_false, false_or, and_false, false_and, and_self, or_self, implies_true, forall_const, not_true_eq_false, not_false_eq_true, reduceCtorEq, Nat.zero_add, Nat.add_zero, Nat.add_eq_right, Nat.add_right_cancel_iff, Nat.succ_ne_zero, Nat.le_refl, true_implies, false_implies, Option.some.injEq, zc_f0, zc_f1, zc_f2, zc_f3, zs_args, zs_args0, List.length_cons, List.length_nil, z_t_wi, z_i_wi, z_r_wi, z_n_wi, z_a_wi, z_q_wi, z_z_wi, z_t_wr, z_i_wr, z_r_wr, z_n_wr, z_a_wr, z_q_wr, z_z_wr, z_t_wa, z_i_wa, z_r_wa, z_n_wa, z_a_wa, z_q_wa, z_z_wa, z_t_wq, z_i_wq, z_r_wq, z_n_wq, z_a_wq, z_q_wq, z_z_wq, z_t_nw, z_i_nw, z_r_nw, z_n_nw, z_a_nw, z_q_nw, z_z_nw, z_t_uq, z_i_uq, z_r_uq, z_n_uq, z_a_uq, z_z_uq, z_q_uq, ↓zs_PV, zs_rcv, hL_money_0, hL_money_1, hL_money_2, hL_money_3, hL_money_4, hL_money_5, hL_money_6, hL_money_9, hL_money_10, hL_money_11, hL_money_12, hL_money_13, hL_money_16, hL_money_17, hL_money_18, hL_money_21, hL_money_24, hL_money_25, clL_money, t1]
        refine ⟨fun z => absurd z (nI_ge (a := k) (b := 4) (by omega) (by decide)), fun _ => ⟨b, E, lg, lg', og, rg, ω, k, 1, h, rfl, rfl, by omega, by decide, by decide, ?_⟩⟩
        simp only [ze_iconst, ze_bipush, ze_sipush, ze_lconst, ze_dconst, ze_aconst_null, ze_ldc, ze_ldc_w, ze_ldc2_w, ze_ldc2_w1, ze_iload, ze_iload_n, ze_lload, ze_lload_n, ze_aload, ze_aload_n, ze_istore, ze_istore_n, ze_lstore, ze_lstore_n, ze_astore, ze_astore_n, ze_iinc, ze_iadd, ze_isub, ze_imul, ze_iand, ze_ior, ze_ixor, ze_ishl, ze_ishr, ze_idiv, ze_irem, ze_ineg, ze_ladd, ze_lsub, ze_lmul, ze_ldiv, ze_lcmp, ze_i2l, ze_l2i, ze_i2d, ze_ddiv, ze_dmul, ze_dsub, ze_dcmp, ze_dup, ze_pop, ze_dup_x1, ze_dup2, ze_goto, ze_ifnull, ze_ifnonnull, ze_getfield, ze_getfield1, ze_putfield, ze_putfield1, ze_iaload, ze_aaload, ze_iastore, ze_aastore, ze_getstatic, ze_arraylength, ze_new, ze_newarray, ze_anewarray, ze_checkcast, ze_invokevirtual, ze_invokespecial, ze_invokestatic, ze_ireturn, ze_lreturn, ze_dreturn, ze_areturn, ze_return_, ze_tableswitch, ze_ifCond_eq, ze_ifCond_ne, ze_ifCond_lt, ze_ifCond_ge, ze_ifCond_gt, ze_ifCond_le, ze_if_icmp_eq, ze_if_icmp_ne, ze_if_icmp_lt, ze_if_icmp_ge, ze_if_icmp_gt, ze_if_icmp_le, ze_acmp_eq, ze_acmp_ne, zs_ldi, zs_ldl, zs_lda, zs_inc, zs_sw0, zs_sw, zs_cb, zs_cb0, zs_inv0, zs_inv1, zs_inv2, zs_inv3, zs_inv4, zs_inv5, zs_inv6, zs_gl, zs_rm0, zs_rm, zs_rm20, zs_rm2, zs_p0, zs_p00, zs_gl0, zs_pk0, zs_pk, zs_fc, zs_ck0, zs_ck, zs_cat0, zs_cat, zs_ci, zs_cl, zs_cd, zs_cr, zs_cn, zs_cf, zs_cu, zs_cu0, zs_wp, zs_wp0, z_rf_ref, z_rf_null, z_rf_rf, z_o_ref, z_o_null, z_o_rf, va_rf_some, va_rf_none, zc_om1, zc_o0, zc_o1, zc_o2, zc_o3, zc_o4, zc_o5, zc_o6, zc_o7, zc_o8, zc_om4, zc_bm2, zc_b6, zc_b7, zc_b8, zc_b9, zc_b10, zc_b11, zc_b12, zc_b14, zc_b15, zc_b16, zc_b17, zc_b18, zc_b20, zc_b21, zc_b22, zc_b24, zc_b30, zc_b40, zc_b41, zc_b60, zc_b63, zc_b64, zc_b66, zc_b76, zc_nI, if_pos, if_neg, reduceIte, Nat.reduceAdd, Nat.reduceMul, Nat.reduceSub, Nat.reduceEqDiff, Nat.reduceLeDiff, Nat.reduceBEq, and_true, true_and, or_true, true_or, or_false, false_or, and_false, false_and, and_self, or_self, implies_true, forall_const, not_true_eq_false, not_false_eq_true, reduceCtorEq, Nat.zero_add, Nat.add_zero, Nat.add_eq_right, Nat.add_right_cancel_iff, Nat.succ_ne_zero, Nat.le_refl, true_implies, false_implies, Option.some.injEq, zc_f0, zc_f1, zc_f2, zc_f3, zs_args, zs_args0, List.length_cons, List.length_nil, z_t_wi, z_i_wi, z_r_wi, z_n_wi, z_a_wi, z_q_wi, z_z_wi, z_t_wr, z_i_wr, z_r_wr, z_n_wr, z_a_wr, z_q_wr, z_z_wr, z_t_wa, z_i_wa, z_r_wa, z_n_wa, z_a_wa, z_q_wa, z_z_wa, z_t_wq, z_i_wq, z_r_wq, z_n_wq, z_a_wq, z_q_wq, z_z_wq, z_t_nw, z_i_nw, z_r_nw, z_n_nw, z_a_nw, z_q_nw, z_z_nw, z_t_uq, z_i_uq, z_r_uq, z_n_uq, z_a_uq, z_z_uq, z_q_uq, ↓zs_PV, zs_rcv, hL_money_0, hL_money_1, hL_money_2, hL_money_3, hL_money_4, hL_money_5, hL_money_6, hL_money_9, hL_money_10, hL_money_11, hL_money_12, hL_money_13, hL_money_16, hL_money_17, hL_money_18, hL_money_21, hL_money_24, hL_money_25, clL_money, nI_1]
        exact ih (k + 1) _ (by omega) he
    refine hK.1 [(4, [0, 1, 2])] 60 _ _ _ _ _ _ ?_
    simp only [ze_iconst, ze_bipush, ze_sipush, ze_lconst, ze_dconst, ze_aconst_null, ze_ldc, ze_ldc_w, ze_ldc2_w, ze_ldc2_w1, ze_iload, ze_iload_n, ze_lload, ze_lload_n, ze_aload, ze_aload_n, ze_istore, ze_istore_n, ze_lstore, ze_lstore_n, ze_astore, ze_astore_n, ze_iinc, ze_iadd, ze_isub, ze_imul, ze_iand, ze_ior, ze_ixor, ze_ishl, ze_ishr, ze_idiv, ze_irem, ze_ineg, ze_ladd, ze_lsub, ze_lmul, ze_ldiv, ze_lcmp, ze_i2l, ze_l2i, ze_i2d, ze_ddiv, ze_dmul, ze_dsub, ze_dcmp, ze_dup, ze_pop, ze_dup_x1, ze_dup2, ze_goto, ze_ifnull, ze_ifnonnull, ze_getfield, ze_getfield1, ze_putfield, ze_putfield1, ze_iaload, ze_aaload, ze_iastore, ze_aastore, ze_getstatic, ze_arraylength, ze_new, ze_newarray, ze_anewarray, ze_checkcast, ze_invokevirtual, ze_invokespecial, ze_invokestatic, ze_ireturn, ze_lreturn, ze_dreturn, ze_areturn, ze_return_, ze_tableswitch, ze_ifCond_eq, ze_ifCond_ne, ze_ifCond_lt, ze_ifCond_ge, ze_ifCond_gt, ze_ifCond_le, ze_if_icmp_eq, ze_if_icmp_ne, ze_if_icmp_lt, ze_if_icmp_ge, ze_if_icmp_gt, ze_if_icmp_le, ze_acmp_eq, ze_acmp_ne, zs_ldi, zs_ldl, zs_lda, zs_inc, zs_sw0, zs_sw, zs_cb, zs_cb0, zs_inv0, zs_inv1, zs_inv2, zs_inv3, zs_inv4, zs_inv5, zs_inv6, zs_gl, zs_rm0, zs_rm, zs_rm20, zs_rm2, zs_p0, zs_p00, zs_gl0, zs_pk0, zs_pk, zs_fc, zs_ck0, zs_ck, zs_cat0, zs_cat, zs_ci, zs_cl, zs_cd, zs_cr, zs_cn, zs_cf, zs_cu, zs_cu0, zs_wp, zs_wp0, z_rf_ref, z_rf_null, z_rf_rf, z_o_ref, z_o_null, z_o_rf, va_rf_some, va_rf_none, zc_om1, zc_o0, zc_o1, zc_o2, zc_o3, zc_o4, zc_o5, zc_o6, zc_o7, zc_o8, zc_om4, zc_bm2, zc_b6, zc_b7, zc_b8, zc_b9, zc_b10, zc_b11, zc_b12, zc_b14, zc_b15, zc_b16, zc_b17, zc_b18, zc_b20, zc_b21, zc_b22, zc_b24, zc_b30, zc_b40, zc_b41, zc_b60, zc_b63, zc_b64, zc_b66, zc_b76, zc_nI, if_pos, if_neg, reduceIte, Nat.reduceAdd, Nat.reduceMul, Nat.reduceSub, Nat.reduceEqDiff, Nat.reduceLeDiff, Nat.reduceBEq, and_true, true_and, or_true, true_or, or_false, false_or, and_false, false_and, and_self, or_self, implies_true, forall_const, not_true_eq_false, not_false_eq_true, reduceCtorEq, Nat.zero_add, Nat.add_zero, Nat.add_eq_right, Nat.add_right_cancel_iff, Nat.succ_ne_zero, Nat.le_refl, true_implies, false_implies, Option.some.injEq, zc_f0, zc_f1, zc_f2, zc_f3, zs_args, zs_args0, List.length_cons, List.length_nil, z_t_wi, z_i_wi, z_r_wi, z_n_wi, z_a_wi, z_q_wi, z_z_wi, z_t_wr, z_i_wr, z_r_wr, z_n_wr, z_a_wr, z_q_wr, z_z_wr, z_t_wa, z_i_wa, z_r_wa, z_n_wa, z_a_wa, z_q_wa, z_z_wa, z_t_wq, z_i_wq, z_r_wq, z_n_wq, z_a_wq, z_q_wq, z_z_wq, z_t_nw, z_i_nw, z_r_nw, z_n_nw, z_a_nw, z_q_nw, z_z_nw, z_t_uq, z_i_uq, z_r_uq, z_n_uq, z_a_uq, z_z_uq, z_q_uq, ↓zs_PV, zs_rcv, hL_money_0, hL_money_1, hL_money_2, hL_money_3, hL_money_4, hL_money_5, hL_money_6, hL_money_9, hL_money_10, hL_money_11, hL_money_12, hL_money_13, hL_money_16, hL_money_17, hL_money_18, hL_money_21, hL_money_24, hL_money_25, clL_money]
    exact loop 4 0 0 rfl rfl
  · exact hp.elim
theorem ctL_money (l : Launch) : z_Ct l yL_money cL_money 3 (some .int) rL_money pL_money 0 0 := z_Ct_of (T := tL_money) (cl := clL_money) (rk := 1) (by decide +kernel) false (fun h => by first | rfl | cases h) oL_money (by first | exact Or.inl ⟨rfl, rfl⟩ | exact Or.inr (Or.inl ⟨rfl, rfl⟩) | exact Or.inr (Or.inr (Or.inl ⟨rfl, rfl⟩)) | exact Or.inr (Or.inr (Or.inr (Or.inl ⟨rfl, rfl⟩))) | exact Or.inr (Or.inr (Or.inr (Or.inr (Or.inl ⟨rfl, rfl⟩)))) | exact Or.inr (Or.inr (Or.inr (Or.inr (Or.inr ⟨rfl, Or.inl ⟨_, rfl⟩⟩)))) | exact Or.inr (Or.inr (Or.inr (Or.inr (Or.inr ⟨rfl, Or.inr ⟨_, rfl⟩⟩))))) rfl rfl (kL_money l) (by intro as σ K h; unfold pL_money at h; split at h <;> first | (simp [lg_sl, Value.category]; done) | exact h.elim) gL_money
