
section ZT
variable {p : Program} {l : Launch} {e : Env} {R : Room} {s : State} {m : MethodId} {args : Array Value} {below : List Frame} {meth : Method} {c : Code} {Q : State → Prop}
variable {cc : ByteArray} {nL : Nat} {D : va_G} {cA : Nat → ClassId} {B : Nat} {H0 : Heap} {own : String} {ini : Bool}
/-- a call's key: the pool's entry and the kind of call -/
def z_key (u : Nat) (i : Instr) : Prop := (∃ k, i = .invokevirtual k ∧ u = 4 * k) ∨ (∃ k, i = .invokespecial k ∧ u = 4 * k + 1) ∨ ∃ k, i = .invokestatic k ∧ u = 4 * k + 2
/-- what a call's contract gives at the caller -/
def z_CallOK (p : Program) (l : Launch) (e : Env) (R : Room) (s : State) (m : MethodId) (args : Array Value) (below : List Frame) (meth : Method) (c : Code) (Q : State → Prop) (nL : Nat) (D : va_G) (cA : Nat → ClassId) (B : Nat) (H0 : Heap) (cc : ByteArray) (u : Nat) (q : Nat × zPT × Nat × Nat) : Prop :=
  ∀ (i : Instr) (pc : Nat) (lv : List (Nat × Value)) (st : List Value) (σ : bS) (cells slots : Nat) (K : Option Value → bS → Prop), z_key u i → decode cc pc = .ok (i, 3) →
    q.1 ≤ st.length → cells + q.2.2.1 ≤ R.cells → slots + q.2.2.2 ≤ R.slots → z_cat (st.drop q.1) ≤ 8 → q.2.1 (st.take q.1).reverse σ K →
    (∀ v σ', K v σ' → z_Sem p l e R s m args below meth c Q nL D cA B H0 (pc + 3) lv (v.toList ++ st.drop q.1) σ' (cells + q.2.2.1) (slots + q.2.2.2)) → z_Sem p l e R s m args below meth c Q nL D cA B H0 pc lv st σ cells slots
/-- the ends of a method -/
def z_reti (rk : Nat) (i : Instr) (v : Option Value) : Prop :=
  (i = .ireturn ∧ (rk = 1 ∨ rk = 2) ∧ ∃ x, v = some (.int x) ∧ (rk = 2 → x = 0 ∨ x = 1)) ∨ (i = .lreturn ∧ rk = 3 ∧ ∃ x, v = some (.long x)) ∨ (i = .dreturn ∧ rk = 4 ∧ ∃ x, v = some (.double x)) ∨ (i = .areturn ∧ rk = 5 ∧ ∃ r, v = some (va_rf r)) ∨ (i = .return_ ∧ rk = 0 ∧ v = none)
def z_RetOK (p : Program) (l : Launch) (e : Env) (R : Room) (s : State) (m : MethodId) (args : Array Value) (below : List Frame) (meth : Method) (c : Code) (Q : State → Prop) (D : va_G) (cA : Nat → ClassId) (B : Nat) (H0 : Heap) (cc : ByteArray) (rk : Nat) (po : Option Value → bS → Nat → Nat → Prop) : Prop :=
  ∀ (i : Instr) (v : Option Value) (pc : Nat) (ls : Array Slot) (σ : bS) (H : Heap) (locs : List Loc) (cells slots : Nat), z_reti rk i v → decode cc pc = .ok (i, 1) → po v σ cells slots → z_ok D cA B σ H → va_S (fun q => B ≤ q) H0 H locs → W p l e R s m args below meth c H locs cells slots Q (F0 m pc ls v.toList)
theorem z_e_put {cA : Nat → ClassId} {σ : bS} {d k a : Nat} {x : Int32} : ∀ q, q ≠ a → z_e cA (z_wi σ d k a x) q = z_e cA σ q := by
  intro q hq
  unfold z_e z_fs z_f
  simp only [z_t_wi, z_i_wi, z_r_wi, z_n_wi, z_a_wi, z_q_wi, hq, and_false, if_false]
  rfl
theorem z_e_putr {cA : Nat → ClassId} {σ : bS} {d k a : Nat} {x : Option Nat} : ∀ q, q ≠ a → z_e cA (z_wr σ d k a x) q = z_e cA σ q := by
  intro q hq
  unfold z_e z_fs z_f
  simp only [z_t_wr, z_i_wr, z_r_wr, z_n_wr, z_a_wr, z_q_wr, hq, and_false, if_false]
  rfl
theorem z_e_wa {cA : Nat → ClassId} {σ : bS} {a j : Nat} {x : Int32} : ∀ q, q ≠ a → z_e cA (z_wa σ a j x) q = z_e cA σ q := by
  intro q hq
  have e1 : z_a (z_wa σ a j x) q = z_a σ q := by funext j'; simp only [z_a_wa, hq, false_and, if_false]
  unfold z_e
  rw [e1]
  rfl
theorem z_e_wq {cA : Nat → ClassId} {σ : bS} {a j : Nat} {x : Option Nat} : ∀ q, q ≠ a → z_e cA (z_wq σ a j x) q = z_e cA σ q := by
  intro q hq
  have e1 : z_q (z_wq σ a j x) q = z_q σ q := by funext j'; simp only [z_q_wq, hq, false_and, if_false]
  unfold z_e
  rw [e1]
  rfl
/-- a kind of reference arrays, by its place in the table -/
theorem z_ra_ty {D : va_G} {cA : Nat → ClassId} {s : State} (hK : va_K D z_cl (z_tys cA) s) {t : Nat} (h : z_ra (t + 1)) : ∃ (t0 : Nat), (z_tys cA)[t0]? = some (cA t, .object (z_anc t)) := by
  obtain ⟨h1, h2⟩ := h
  rcases (show t = 21 ∨ t = 22 ∨ t = 23 ∨ t = 24 ∨ t = 25 by omega) with rfl | rfl | rfl | rfl | rfl
  · exact ⟨1, rfl⟩
  · exact ⟨2, rfl⟩
  · exact ⟨3, rfl⟩
  · exact ⟨4, rfl⟩
  · exact ⟨5, rfl⟩
theorem z_ra_e {cA : Nat → ClassId} {σ : bS} {a : Nat} (h : z_ra (z_t σ a)) : ∃ t, z_t σ a = t + 1 ∧ 21 ≤ t ∧ t ≤ 25 ∧ z_e cA σ a = some (.inl (cA t, z_n σ a, .inr (.inr (.inr (.inr (z_q σ a)))))) := by
  obtain ⟨h1, h2⟩ := h
  obtain ⟨t, ht⟩ : ∃ t, z_t σ a = t + 1 := ⟨z_t σ a - 1, by omega⟩
  exact ⟨t, ht, by omega, by omega, z_e_q ht (by omega) (by omega) (by omega)⟩
theorem z_lt {i : Int32} {n : Nat} (h : vp_in i n) : i.toNatClampNeg < n := Nat.not_le.mp fun q => h (Or.inr q)
/-- the step of a stretch is sound -/
theorem z_st_snd (X : z_Cx p s m args meth c cc nL D cA B H0 own ini) {cl : List zC} {po : Option Value → bS → Nat → Nat → Prop} {rk : Nat} {K : zK}
    (hcl : ∀ u q, z_fc cl u = some q → z_CallOK p l e R s m args below meth c Q nL D cA B H0 cc u q) (hret : z_RetOK p l e R s m args below meth c Q D cA B H0 cc rk po)
    (hk : ∀ pc lv st σ cells slots, K pc lv st σ cells slots → z_Sem p l e R s m args below meth c Q nL D cA B H0 pc lv st σ cells slots)
    {i : Instr} {len pc : Nat} {tg : List Nat} (hd0 : decode cc pc = .ok (i, len)) (hln : z_lnok i len = true) (hax : z_aux own ini nL rk i pc tg = true) {lv : List (Nat × Value)} {st : List Value} {σ : bS} {cells slots : Nat}
    (h : z_st cl po R.cells R.slots rk K i tg pc lv st σ cells slots) : z_Sem p l e R s m args below meth c Q nL D cA B H0 pc lv st σ cells slots := by
  have hx := X.1
  have hb := X.2.1
  have hml := X.2.2.1
  have hown := X.2.2.2.1
  have hts := X.2.2.2.2.1
  have hN := X.2.2.2.2.2.1
  have hK := X.2.2.2.2.2.2.1
  have hBH := X.2.2.2.2.2.2.2.1
  have hZs := X.2.2.2.2.2.2.2.2.2
  intro H ls locs h1 h2 h3
  have hBs : B ≤ H.size := Nat.le_trans hBH h3.1
  cases i <;> first | exact (show False from h).elim | skip
  case iconst k =>
    obtain rfl := eq_of_beq hln
    have hd := hd0
    exact lv_iconst hx hb hd rfl (hk _ _ _ _ _ _ h H ls locs h1 h2 h3)
  case bipush k =>
    obtain rfl := eq_of_beq hln
    have hd := hd0
    exact lv_bipush hx hb hd rfl (hk _ _ _ _ _ _ h H ls locs h1 h2 h3)
  case sipush k =>
    obtain rfl := eq_of_beq hln
    have hd := hd0
    exact lv_sipush hx hb hd rfl (hk _ _ _ _ _ _ h H ls locs h1 h2 h3)
  case lconst k =>
    obtain rfl := eq_of_beq hln
    have hd := hd0
    exact lv_lconst hx hb hd rfl (hk _ _ _ _ _ _ h H ls locs h1 h2 h3)
  case dconst k =>
    obtain rfl := eq_of_beq hln
    have hd := hd0
    obtain ⟨rfl, h⟩ := h
    exact lv_dconst0 hx hb hd (hk _ _ _ _ _ _ h H ls locs h1 h2 h3)
  case aconst_null =>
    obtain rfl := eq_of_beq hln
    have hd := hd0
    exact lv_null hx hb hd (hk _ _ _ _ _ _ h H ls locs h1 h2 h3)
  case ldc u =>
    obtain rfl := eq_of_beq hln
    have hd := hd0
    match tg, hax, h with
    | [v], hax, h =>
      have hm := of_decide_eq_true hax
      exact lv_ldc hx hb hown (hts _ (z_KI_ok _ hm)) hd (hk _ _ _ _ _ _ h H ls locs h1 h2 h3)
  case ldc_w u =>
    obtain rfl := eq_of_beq hln
    have hd := hd0
    match tg, hax, h with
    | [v], hax, h =>
      have hm := of_decide_eq_true hax
      exact lv_ldcw hx hb hown (hts _ (z_KI_ok _ hm)) hd (hk _ _ _ _ _ _ h H ls locs h1 h2 h3)
  case ldc2_w u =>
    obtain rfl := eq_of_beq hln
    have hd := hd0
    match tg, hax, h with
    | [v], hax, h => exact lv_ldc2 hx hb hown (hts _ (z_KL_ok _ (of_decide_eq_true hax))) hd (hk _ _ _ _ _ _ h H ls locs h1 h2 h3)
    | [v, _], hax, h => exact lv_ldc2d hx hb hown (hts _ (z_KD_ok _ (of_decide_eq_true hax))) hd (hk _ _ _ _ _ _ h H ls locs h1 h2 h3)
  case iload i =>
    obtain rfl := eq_of_beq hln
    have hd := hd0
    have h : z_ldi (z_gl lv i) K (pc + 2) lv st σ cells slots := h
    unfold z_ldi at h
    split at h
    · rename_i x hx2
      exact lv_iload hx hb hd (z_gl_at h2 hx2) (hk _ _ _ _ _ _ h H ls locs h1 h2 h3)
    · exact h.elim
  case iload_n i =>
    obtain rfl := eq_of_beq hln
    have hd := hd0
    have h : z_ldi (z_gl lv (i : Nat)) K (pc + 1) lv st σ cells slots := h
    unfold z_ldi at h
    split at h
    · rename_i x hx2
      exact lv_iload_n hx hb hd rfl (z_gl_at h2 hx2) (hk _ _ _ _ _ _ h H ls locs h1 h2 h3)
    · exact h.elim
  case lload i =>
    obtain rfl := eq_of_beq hln
    have hd := hd0
    have h : z_ldl (z_gl lv i) K (pc + 2) lv st σ cells slots := h
    unfold z_ldl at h
    split at h
    · rename_i x hx2
      exact lv_lload hx hb hd (z_gl_at h2 hx2) (hk _ _ _ _ _ _ h H ls locs h1 h2 h3)
    · exact h.elim
  case lload_n i =>
    obtain rfl := eq_of_beq hln
    have hd := hd0
    have h : z_ldl (z_gl lv (i : Nat)) K (pc + 1) lv st σ cells slots := h
    unfold z_ldl at h
    split at h
    · rename_i x hx2
      exact lv_lload_n hx hb hd rfl (z_gl_at h2 hx2) (hk _ _ _ _ _ _ h H ls locs h1 h2 h3)
    · exact h.elim
  case aload i =>
    obtain rfl := eq_of_beq hln
    have hd := hd0
    have h : z_lda (z_gl lv i) K (pc + 2) lv st σ cells slots := h
    unfold z_lda at h
    split at h
    · rename_i x hx2
      obtain ⟨hr, h⟩ := h
      obtain ⟨r, rfl⟩ : ∃ r, x = va_rf r := ⟨_, hr⟩
      cases r with
      | none => exact lv_aloadN hx hb hd (z_gl_at h2 hx2) (hk _ _ _ _ _ _ h H ls locs h1 h2 h3)
      | some a => exact lv_aload hx hb hd (z_gl_at h2 hx2) (hk _ _ _ _ _ _ h H ls locs h1 h2 h3)
    · exact h.elim
  case aload_n i =>
    obtain rfl := eq_of_beq hln
    have hd := hd0
    have h : z_lda (z_gl lv (i : Nat)) K (pc + 1) lv st σ cells slots := h
    unfold z_lda at h
    split at h
    · rename_i x hx2
      obtain ⟨hr, h⟩ := h
      obtain ⟨r, rfl⟩ : ∃ r, x = va_rf r := ⟨_, hr⟩
      cases r with
      | none => exact lv_aload_nN hx hb hd rfl (z_gl_at h2 hx2) (hk _ _ _ _ _ _ h H ls locs h1 h2 h3)
      | some a => exact lv_aload_n hx hb hd rfl (z_gl_at h2 hx2) (hk _ _ _ _ _ _ h H ls locs h1 h2 h3)
    · exact h.elim
  case istore i =>
    obtain rfl := eq_of_beq hln
    have hd := hd0
    obtain ⟨x, r, rfl, h⟩ := z_p1_inv h
    exact lv_istore hx hb hd h2 (of_decide_eq_true hax) (by rw [z_rm_eq]) (fun ls2 h2 => hk _ _ _ _ _ _ h H ls2 locs h1 h2 h3)
  case istore_n i =>
    obtain rfl := eq_of_beq hln
    have hd := hd0
    obtain ⟨x, r, rfl, h⟩ := z_p1_inv h
    exact lv_istore_n hx hb hd rfl h2 (of_decide_eq_true hax) (by rw [z_rm_eq]) (fun ls2 h2 => hk _ _ _ _ _ _ h H ls2 locs h1 h2 h3)
  case lstore i =>
    obtain rfl := eq_of_beq hln
    have hd := hd0
    obtain ⟨x, r, rfl, h⟩ := z_l1_inv h
    exact lv_lstore hx hb hd h2 (of_decide_eq_true hax) (by rw [z_rm2_eq]) (fun ls2 h2 => hk _ _ _ _ _ _ h H ls2 locs h1 h2 h3)
  case lstore_n i =>
    obtain rfl := eq_of_beq hln
    have hd := hd0
    obtain ⟨x, r, rfl, h⟩ := z_l1_inv h
    exact lv_lstore_n hx hb hd rfl h2 (of_decide_eq_true hax) (by rw [z_rm2_eq]) (fun ls2 h2 => hk _ _ _ _ _ _ h H ls2 locs h1 h2 h3)
  case astore i =>
    obtain rfl := eq_of_beq hln
    have hd := hd0
    obtain ⟨x, r, rfl, h⟩ := z_v1_inv h
    obtain ⟨hr, h⟩ := h
    obtain ⟨q, rfl⟩ : ∃ q, x = va_rf q := ⟨_, hr⟩
    cases q with
    | none => exact lv_astoreN hx hb hd h2 (of_decide_eq_true hax) (by rw [z_rm_eq]; rfl) (fun ls2 h2 => hk _ _ _ _ _ _ h H ls2 locs h1 h2 h3)
    | some a => exact lv_astore hx hb hd h2 (of_decide_eq_true hax) (by rw [z_rm_eq]; rfl) (fun ls2 h2 => hk _ _ _ _ _ _ h H ls2 locs h1 h2 h3)
  case astore_n i =>
    obtain rfl := eq_of_beq hln
    have hd := hd0
    obtain ⟨x, r, rfl, h⟩ := z_v1_inv h
    obtain ⟨hr, h⟩ := h
    obtain ⟨q, rfl⟩ : ∃ q, x = va_rf q := ⟨_, hr⟩
    cases q with
    | none => exact lv_astore_nN hx hb hd rfl h2 (of_decide_eq_true hax) (by rw [z_rm_eq]; rfl) (fun ls2 h2 => hk _ _ _ _ _ _ h H ls2 locs h1 h2 h3)
    | some a => exact lv_astore_n hx hb hd rfl h2 (of_decide_eq_true hax) (by rw [z_rm_eq]; rfl) (fun ls2 h2 => hk _ _ _ _ _ _ h H ls2 locs h1 h2 h3)
  case iinc i k =>
    obtain rfl := eq_of_beq hln
    have hd := hd0
    have h : z_inc (z_gl lv i) i k K (pc + 3) lv st σ cells slots := h
    unfold z_inc at h
    split at h
    · rename_i x hx2
      obtain ⟨j, hj⟩ := List.getElem?_of_mem (z_gl_mem hx2)
      exact lv_iinc hx hb hd h2 hj rfl (of_decide_eq_true hax) (by rw [z_rm_eq]) (fun ls2 h2 => hk _ _ _ _ _ _ h H ls2 locs h1 h2 h3)
    · exact h.elim
  case iadd =>
    obtain rfl := eq_of_beq hln
    have hd := hd0
    obtain ⟨x, y, r, rfl, h⟩ := z_p2_inv h
    exact lv_iadd hx hb hd (hk _ _ _ _ _ _ h H ls locs h1 h2 h3)
  case isub =>
    obtain rfl := eq_of_beq hln
    have hd := hd0
    obtain ⟨x, y, r, rfl, h⟩ := z_p2_inv h
    exact lv_isub hx hb hd (hk _ _ _ _ _ _ h H ls locs h1 h2 h3)
  case imul =>
    obtain rfl := eq_of_beq hln
    have hd := hd0
    obtain ⟨x, y, r, rfl, h⟩ := z_p2_inv h
    exact lv_imul hx hb hd (hk _ _ _ _ _ _ h H ls locs h1 h2 h3)
  case iand =>
    obtain rfl := eq_of_beq hln
    have hd := hd0
    obtain ⟨x, y, r, rfl, h⟩ := z_p2_inv h
    exact lv_iand hx hb hd (hk _ _ _ _ _ _ h H ls locs h1 h2 h3)
  case ior =>
    obtain rfl := eq_of_beq hln
    have hd := hd0
    obtain ⟨x, y, r, rfl, h⟩ := z_p2_inv h
    exact lv_ior hx hb hd (hk _ _ _ _ _ _ h H ls locs h1 h2 h3)
  case ixor =>
    obtain rfl := eq_of_beq hln
    have hd := hd0
    obtain ⟨x, y, r, rfl, h⟩ := z_p2_inv h
    exact lv_ixor hx hb hd (hk _ _ _ _ _ _ h H ls locs h1 h2 h3)
  case ishl =>
    obtain rfl := eq_of_beq hln
    have hd := hd0
    obtain ⟨x, y, r, rfl, h⟩ := z_p2_inv h
    exact lv_ishl hx hb hd (hk _ _ _ _ _ _ h H ls locs h1 h2 h3)
  case ishr =>
    obtain rfl := eq_of_beq hln
    have hd := hd0
    obtain ⟨x, y, r, rfl, h⟩ := z_p2_inv h
    exact lv_ishr hx hb hd (hk _ _ _ _ _ _ h H ls locs h1 h2 h3)
  case idiv =>
    obtain rfl := eq_of_beq hln
    have hd := hd0
    obtain ⟨x, y, r, rfl, h⟩ := z_p2_inv h
    obtain ⟨hne, h⟩ := h
    exact lv_idiv hx hb hd hne (hk _ _ _ _ _ _ h H ls locs h1 h2 h3)
  case irem =>
    obtain rfl := eq_of_beq hln
    have hd := hd0
    obtain ⟨x, y, r, rfl, h⟩ := z_p2_inv h
    obtain ⟨hne, h⟩ := h
    exact lv_irem hx hb hd hne (hk _ _ _ _ _ _ h H ls locs h1 h2 h3)
  case ineg =>
    obtain rfl := eq_of_beq hln
    have hd := hd0
    obtain ⟨x, r, rfl, h⟩ := z_p1_inv h
    exact lv_ineg hx hb hd (hk _ _ _ _ _ _ h H ls locs h1 h2 h3)
  case ladd =>
    obtain rfl := eq_of_beq hln
    have hd := hd0
    obtain ⟨x, y, r, rfl, h⟩ := z_l2_inv h
    exact lv_ladd hx hb hd (hk _ _ _ _ _ _ h H ls locs h1 h2 h3)
  case lsub =>
    obtain rfl := eq_of_beq hln
    have hd := hd0
    obtain ⟨x, y, r, rfl, h⟩ := z_l2_inv h
    exact lv_lsub hx hb hd (hk _ _ _ _ _ _ h H ls locs h1 h2 h3)
  case lmul =>
    obtain rfl := eq_of_beq hln
    have hd := hd0
    obtain ⟨x, y, r, rfl, h⟩ := z_l2_inv h
    exact lv_lmul hx hb hd (hk _ _ _ _ _ _ h H ls locs h1 h2 h3)
  case ldiv =>
    obtain rfl := eq_of_beq hln
    have hd := hd0
    obtain ⟨x, y, r, rfl, h⟩ := z_l2_inv h
    obtain ⟨hne, h⟩ := h
    exact lv_ldiv hx hb hd hne (hk _ _ _ _ _ _ h H ls locs h1 h2 h3)
  case lcmp =>
    obtain rfl := eq_of_beq hln
    have hd := hd0
    obtain ⟨x, y, r, rfl, h⟩ := z_l2_inv h
    exact W.lcmp hx hb hd (hk _ _ _ _ _ _ h H ls locs h1 h2 h3)
  case i2l =>
    obtain rfl := eq_of_beq hln
    have hd := hd0
    obtain ⟨x, r, rfl, h⟩ := z_p1_inv h
    exact lv_i2l hx hb hd rfl (hk _ _ _ _ _ _ h H ls locs h1 h2 h3)
  case l2i =>
    obtain rfl := eq_of_beq hln
    have hd := hd0
    obtain ⟨x, r, rfl, h⟩ := z_l1_inv h
    exact lv_l2i hx hb hd rfl (hk _ _ _ _ _ _ h H ls locs h1 h2 h3)
  case i2d =>
    obtain rfl := eq_of_beq hln
    have hd := hd0
    obtain ⟨x, r, rfl, h⟩ := z_p1_inv h
    exact lv_i2d hx hb hd (hk _ _ _ _ _ _ h H ls locs h1 h2 h3)
  case ddiv =>
    obtain rfl := eq_of_beq hln
    have hd := hd0
    obtain ⟨x, y, r, rfl, h⟩ := z_d2_inv h
    obtain ⟨hne, h⟩ := h
    exact lv_ddiv hx hb hd hne (hk _ _ _ _ _ _ h H ls locs h1 h2 h3)
  case dmul =>
    obtain rfl := eq_of_beq hln
    have hd := hd0
    obtain ⟨x, y, r, rfl, h⟩ := z_d2_inv h
    obtain ⟨hne, h⟩ := h
    exact lv_dmul hx hb hd hne (hk _ _ _ _ _ _ h H ls locs h1 h2 h3)
  case dsub =>
    obtain rfl := eq_of_beq hln
    have hd := hd0
    obtain ⟨x, y, r, rfl, h⟩ := z_d2_inv h
    obtain ⟨hne, h⟩ := h
    exact lv_dsub hx hb hd hne (hk _ _ _ _ _ _ h H ls locs h1 h2 h3)
  case dcmp op =>
    obtain rfl := eq_of_beq hln
    have hd := hd0
    obtain ⟨x, y, r, rfl, h⟩ := z_d2_inv h
    exact lv_dcmp hx hb hd (hk _ _ _ _ _ _ h H ls locs h1 h2 h3)
  case dup =>
    obtain rfl := eq_of_beq hln
    have hd := hd0
    obtain ⟨x, r, rfl, h⟩ := z_v1_inv h
    obtain ⟨hc, h⟩ := h
    exact lv_dup hx hb hd hc (hk _ _ _ _ _ _ h H ls locs h1 h2 h3)
  case pop =>
    obtain rfl := eq_of_beq hln
    have hd := hd0
    obtain ⟨x, r, rfl, h⟩ := z_v1_inv h
    obtain ⟨hc, h⟩ := h
    exact lv_pop hx hb hd hc (hk _ _ _ _ _ _ h H ls locs h1 h2 h3)
  case dup_x1 =>
    obtain rfl := eq_of_beq hln
    have hd := hd0
    obtain ⟨x, y, r, rfl, h⟩ := z_v2_inv h
    obtain ⟨hc, hc2, h⟩ := h
    exact lv_dup_x1 hx hb hd hc2 hc (hk _ _ _ _ _ _ h H ls locs h1 h2 h3)
  case dup2 =>
    obtain rfl := eq_of_beq hln
    have hd := hd0
    obtain ⟨x, y, r, rfl, h⟩ := z_v2_inv h
    obtain ⟨hc, hc2, h⟩ := h
    exact lv_dup2_11 hx hb hd hc2 hc (hk _ _ _ _ _ _ h H ls locs h1 h2 h3)
  case ifCond cd u =>
    obtain rfl := eq_of_beq hln
    have hd := hd0
    match tg, hax, h with
    | [t], hax, h =>
      have ht := of_decide_eq_true hax
      cases cd with
      | eq =>
        obtain ⟨x, r, rfl, h⟩ := z_p1_inv h
        exact lv_if_eq hx hb hd ht (fun hc => hk _ _ _ _ _ _ (h.1 hc) H ls locs h1 h2 h3) (fun hc => hk _ _ _ _ _ _ (h.2 hc) H ls locs h1 h2 h3)
      | ne =>
        obtain ⟨x, r, rfl, h⟩ := z_p1_inv h
        exact lv_if_ne hx hb hd ht (fun hc => hk _ _ _ _ _ _ (h.1 hc) H ls locs h1 h2 h3) (fun hc => hk _ _ _ _ _ _ (h.2 hc) H ls locs h1 h2 h3)
      | lt =>
        obtain ⟨x, r, rfl, h⟩ := z_p1_inv h
        exact lv_if_lt hx hb hd ht (fun hc => hk _ _ _ _ _ _ (h.1 hc) H ls locs h1 h2 h3) (fun hc => hk _ _ _ _ _ _ (h.2 hc) H ls locs h1 h2 h3)
      | ge =>
        obtain ⟨x, r, rfl, h⟩ := z_p1_inv h
        exact lv_if_ge hx hb hd ht (fun hc => hk _ _ _ _ _ _ (h.1 hc) H ls locs h1 h2 h3) (fun hc => hk _ _ _ _ _ _ (h.2 hc) H ls locs h1 h2 h3)
      | gt =>
        obtain ⟨x, r, rfl, h⟩ := z_p1_inv h
        exact lv_if_gt hx hb hd ht (fun hc => hk _ _ _ _ _ _ (h.1 hc) H ls locs h1 h2 h3) (fun hc => hk _ _ _ _ _ _ (h.2 hc) H ls locs h1 h2 h3)
      | le =>
        obtain ⟨x, r, rfl, h⟩ := z_p1_inv h
        exact lv_if_le hx hb hd ht (fun hc => hk _ _ _ _ _ _ (h.1 hc) H ls locs h1 h2 h3) (fun hc => hk _ _ _ _ _ _ (h.2 hc) H ls locs h1 h2 h3)
  case if_icmp cd u =>
    obtain rfl := eq_of_beq hln
    have hd := hd0
    match tg, hax, h with
    | [t], hax, h =>
      have ht := of_decide_eq_true hax
      cases cd with
      | eq =>
        obtain ⟨x, y, r, rfl, h⟩ := z_p2_inv h
        exact lv_icmp_eq hx hb hd ht (fun hc => hk _ _ _ _ _ _ (h.1 hc) H ls locs h1 h2 h3) (fun hc => hk _ _ _ _ _ _ (h.2 hc) H ls locs h1 h2 h3)
      | ne =>
        obtain ⟨x, y, r, rfl, h⟩ := z_p2_inv h
        exact lv_icmp_ne hx hb hd ht (fun hc => hk _ _ _ _ _ _ (h.1 hc) H ls locs h1 h2 h3) (fun hc => hk _ _ _ _ _ _ (h.2 hc) H ls locs h1 h2 h3)
      | lt =>
        obtain ⟨x, y, r, rfl, h⟩ := z_p2_inv h
        exact lv_icmp_lt hx hb hd ht (fun hc => hk _ _ _ _ _ _ (h.1 hc) H ls locs h1 h2 h3) (fun hc => hk _ _ _ _ _ _ (h.2 hc) H ls locs h1 h2 h3)
      | ge =>
        obtain ⟨x, y, r, rfl, h⟩ := z_p2_inv h
        exact lv_icmp_ge hx hb hd ht (fun hc => hk _ _ _ _ _ _ (h.1 hc) H ls locs h1 h2 h3) (fun hc => hk _ _ _ _ _ _ (h.2 hc) H ls locs h1 h2 h3)
      | gt =>
        obtain ⟨x, y, r, rfl, h⟩ := z_p2_inv h
        exact lv_icmp_gt hx hb hd ht (fun hc => hk _ _ _ _ _ _ (h.1 hc) H ls locs h1 h2 h3) (fun hc => hk _ _ _ _ _ _ (h.2 hc) H ls locs h1 h2 h3)
      | le =>
        obtain ⟨x, y, r, rfl, h⟩ := z_p2_inv h
        exact lv_icmp_le hx hb hd ht (fun hc => hk _ _ _ _ _ _ (h.1 hc) H ls locs h1 h2 h3) (fun hc => hk _ _ _ _ _ _ (h.2 hc) H ls locs h1 h2 h3)
  case if_acmp cd u =>
    obtain rfl := eq_of_beq hln
    have hd := hd0
    match tg, hax, h with
    | [t], hax, h =>
      have ht := of_decide_eq_true hax
      cases cd with
      | eq =>
        obtain ⟨x, y, r, rfl, hr1, hr2, h⟩ := z_v2_inv h
        obtain ⟨rx, rfl⟩ : ∃ q, x = va_rf q := ⟨_, hr1⟩
        obtain ⟨ry, rfl⟩ : ∃ q, y = va_rf q := ⟨_, hr2⟩
        rw [z_o_rf, z_o_rf] at h
        exact lv_acmp_eq hx hb hd ht (fun hc => hk _ _ _ _ _ _ (h.1 hc) H ls locs h1 h2 h3) (fun hc => hk _ _ _ _ _ _ (h.2 hc) H ls locs h1 h2 h3)
      | ne =>
        obtain ⟨x, y, r, rfl, hr1, hr2, h⟩ := z_v2_inv h
        obtain ⟨rx, rfl⟩ : ∃ q, x = va_rf q := ⟨_, hr1⟩
        obtain ⟨ry, rfl⟩ : ∃ q, y = va_rf q := ⟨_, hr2⟩
        rw [z_o_rf, z_o_rf] at h
        exact lv_acmp_ne hx hb hd ht (fun hc => hk _ _ _ _ _ _ (h.1 hc) H ls locs h1 h2 h3) (fun hc => hk _ _ _ _ _ _ (h.2 hc) H ls locs h1 h2 h3)
  case ifnull u =>
    obtain rfl := eq_of_beq hln
    have hd := hd0
    match tg, hax, h with
    | [t], hax, h =>
      have ht := of_decide_eq_true hax
      obtain ⟨x, r, rfl, hr, h⟩ := z_v1_inv h
      obtain ⟨q, rfl⟩ : ∃ q, x = va_rf q := ⟨_, hr⟩
      rw [z_o_rf] at h
      cases q with
      | none => exact lv_ifnullN hx hb hd ht (hk _ _ _ _ _ _ (h.1 rfl) H ls locs h1 h2 h3)
      | some a => exact lv_ifnull hx hb hd (hk _ _ _ _ _ _ (h.2 (fun q => by cases q)) H ls locs h1 h2 h3)
  case ifnonnull u =>
    obtain rfl := eq_of_beq hln
    have hd := hd0
    match tg, hax, h with
    | [t], hax, h =>
      have ht := of_decide_eq_true hax
      obtain ⟨x, r, rfl, hr, h⟩ := z_v1_inv h
      obtain ⟨q, rfl⟩ : ∃ q, x = va_rf q := ⟨_, hr⟩
      rw [z_o_rf] at h
      cases q with
      | none => exact lv_ifnonnullN hx hb hd (hk _ _ _ _ _ _ (h.2 rfl) H ls locs h1 h2 h3)
      | some a => exact lv_ifnonnull hx hb hd ht (hk _ _ _ _ _ _ (h.1 (fun q => by cases q)) H ls locs h1 h2 h3)
  case goto u =>
    obtain rfl := eq_of_beq hln
    have hd := hd0
    match tg, hax, h with
    | [t], hax, h =>
      have ht := of_decide_eq_true hax
      exact lv_goto hx hb hd ht (hk _ _ _ _ _ _ h H ls locs h1 h2 h3)
  case tableswitch d lo hi os =>
    match tg, hax, h with
    | t :: ts, hax, h =>
      have hax' := hax
      unfold z_aux at hax'
      simp only [Bool.and_eq_true, decide_eq_true_eq] at hax'
      obtain ⟨⟨hd1, hd2⟩, hd3⟩ := hax'
      obtain ⟨x, r, rfl, ho, hw⟩ := z_p1_inv h
      by_cases hout : x.toInt < lo ∨ hi < x.toInt
      · exact lv_tableOut hx hb hd0 hout hd1 (hk _ _ _ _ _ _ (ho hout) H ls locs h1 h2 h3)
      · have a1 : ¬ x.toInt < lo := fun q => hout (Or.inl q)
        have a2 : ¬ hi < x.toInt := fun q => hout (Or.inr q)
        have hj : (x.toInt - lo).toNat < ts.length := by omega
        obtain ⟨t2, ht2⟩ : ∃ t2, ts[(x.toInt - lo).toNat]? = some t2 := ⟨_, List.getElem?_eq_getElem hj⟩
        have hm : (os.toList.map (fun o => (pc : Int) + o))[(x.toInt - lo).toNat]? = some (t2 : Int) := by
          rw [hd2, List.getElem?_map, ht2]; rfl
        rw [List.getElem?_map] at hm
        obtain ⟨off, ho1, ho2⟩ := Option.map_eq_some_iff.mp hm
        rw [Array.getElem?_toList] at ho1
        exact lv_tableIn hx hb hd0 a1 a2 ho1 ho2 (hk _ _ _ _ _ _ (z_sw_get hw _ t2 ht2 (by omega)) H ls locs h1 h2 h3)
  case getfield u =>
    obtain rfl := eq_of_beq hln
    have hd := hd0
    match tg, hax, h with
    | [d, k, 1], hax, h =>
      have hax' := hax
      unfold z_aux at hax'
      simp only [Bool.and_eq_true, decide_eq_true_eq] at hax'
      obtain ⟨⟨hm, hkk⟩, -⟩ := hax'
      obtain ⟨a, r, rfl, ht, h⟩ := z_a1_inv h
      have hkt : z_k d k = true := eq_of_beq hkk
      exact z_get X (show z_flk own u d k from z_FL_ok _ hm) h1 ht (by unfold z_f; rw [if_pos hkt]) hd (hk _ _ _ _ _ _ h H ls locs h1 h2 h3)
    | [d, k, 0], hax, h =>
      have hax' := hax
      unfold z_aux at hax'
      simp only [Bool.and_eq_true, decide_eq_true_eq] at hax'
      obtain ⟨⟨hm, hkk⟩, -⟩ := hax'
      obtain ⟨a, r, rfl, ht, h⟩ := z_a1_inv h
      have hkt : z_k d k = false := eq_of_beq hkk
      exact z_get X (show z_flk own u d k from z_FL_ok _ hm) h1 ht (by unfold z_f; rw [hkt]; rfl) hd (hk _ _ _ _ _ _ h H ls locs h1 h2 h3)
  case putfield u =>
    obtain rfl := eq_of_beq hln
    have hd := hd0
    match tg, hax, h with
    | [d, k, 1], hax, h =>
      have hax' := hax
      unfold z_aux at hax'
      simp only [Bool.and_eq_true, Bool.or_eq_true, Bool.not_eq_true', decide_eq_true_eq] at hax'
      obtain ⟨⟨⟨hm, hkk⟩, -⟩, hfi⟩ := hax'
      obtain ⟨a, x, r, rfl, ht, h⟩ := z_ia_inv h
      have hkt : z_k d k = true := eq_of_beq hkk
      refine z_put X (σ' := z_wi σ d k a x) (show z_flk own u d k from z_FL_ok _ hm) h1 h3 ht (Or.inl ⟨hkt, x, rfl⟩) hfi rfl rfl (fun j => ?_) z_e_put (fun q => ⟨rfl, rfl⟩) hd (fun H1 locs1 o1 s1 => hk _ _ _ _ _ _ h H1 ls locs1 o1 h2 s1)
      unfold z_f
      by_cases hj : j = k
      · subst hj
        simp [hkt, z_i_wi]
      · simp [hj, z_i_wi, z_r_wi]
    | [d, k, 0], hax, h =>
      have hax' := hax
      unfold z_aux at hax'
      simp only [Bool.and_eq_true, Bool.or_eq_true, Bool.not_eq_true', decide_eq_true_eq] at hax'
      obtain ⟨⟨⟨hm, hkk⟩, -⟩, hfi⟩ := hax'
      obtain ⟨a, x, r, rfl, hr, ht, h⟩ := z_va_inv h
      have hkt : z_k d k = false := eq_of_beq hkk
      obtain ⟨q, rfl⟩ : ∃ q, x = va_rf q := ⟨_, hr⟩
      rw [z_o_rf] at h
      refine z_put X (σ' := z_wr σ d k a q) (show z_flk own u d k from z_FL_ok _ hm) h1 h3 ht (Or.inr ⟨hkt, q, rfl⟩) hfi rfl rfl (fun j => ?_) z_e_putr (fun q => ⟨rfl, rfl⟩) hd (fun H1 locs1 o1 s1 => hk _ _ _ _ _ _ h H1 ls locs1 o1 h2 s1)
      unfold z_f
      by_cases hj : j = k
      · subst hj
        simp [hkt, z_r_wr]
      · simp [hj, z_i_wr, z_r_wr]
  case iaload =>
    obtain rfl := eq_of_beq hln
    have hd := hd0
    obtain ⟨a, x, r, rfl, h⟩ := z_ia_inv h
    obtain ⟨ht, hin, h⟩ := h
    rcases ht with ht | ht
    · exact va_iald hx hb hK (z_sing (h1.2.1 a _ (z_e_i ht))) 0 0 rfl rfl hin hd (hk _ _ _ _ _ _ h H ls locs h1 h2 h3)
    · obtain ⟨cell, c1, c2, c3, c4, c5, c6⟩ := h1.2.2.2.2.2 a (Or.inl ht)
      exact W.iald (v := .int (z_a σ a x.toNatClampNeg)) hx hb c1 (z_xarr (by rw [c2, ht]) c3 hZs.2.1) (c4 ht) (by rw [c5]; exact hin) (c6 _ ht (z_lt hin)) rfl rfl hd (hk _ _ _ _ _ _ h H ls locs h1 h2 h3)
  case aaload =>
    obtain rfl := eq_of_beq hln
    have hd := hd0
    obtain ⟨a, x, r, rfl, h⟩ := z_ia_inv h
    obtain ⟨ht, hin, h⟩ := h
    obtain ⟨t, e1, e2, e3, e4⟩ := z_ra_e (cA := cA) ht
    rw [e1] at ht
    obtain ⟨t0, ht0⟩ := z_ra_ty hK ht
    exact va_aldq hx hb hK (z_sing (h1.2.1 a _ e4)) 0 t0 rfl ht0 hin hd (hk _ _ _ _ _ _ h H ls locs h1 h2 h3)
  case arraylength =>
    obtain rfl := eq_of_beq hln
    have hd := hd0
    obtain ⟨a, r, rfl, h⟩ := z_a1_inv h
    obtain ⟨ht, h⟩ := h
    rcases ht with ht | ht | ht | ht
    · exact va_alen hx hb hK (z_sing (h1.2.1 a _ (z_e_i ht))) 0 0 rfl rfl rfl hd (hk _ _ _ _ _ _ h H ls locs h1 h2 h3)
    · obtain ⟨cell, c1, c2, c3, c4, c5, c6⟩ := h1.2.2.2.2.2 a (Or.inl ht)
      exact W.alen (n := Int32.ofNat (z_n σ a)) hx hb c1 (z_xarr (by rw [c2, ht]) c3 hZs.2.1) (by rw [c5] <;> rfl) rfl rfl hd (hk _ _ _ _ _ _ h H ls locs h1 h2 h3)
    · obtain ⟨cell, c1, c2, c3, c4, c5, c6⟩ := h1.2.2.2.2.2 a (Or.inr ht)
      exact W.alen (n := Int32.ofNat (z_n σ a)) hx hb c1 (z_xarr (by rw [c2, ht]) c3 hZs.2.2) (by rw [c5] <;> rfl) rfl rfl hd (hk _ _ _ _ _ _ h H ls locs h1 h2 h3)
    · obtain ⟨t, e1, e2, e3, e4⟩ := z_ra_e (cA := cA) ht
      rw [e1] at ht
      obtain ⟨t0, ht0⟩ := z_ra_ty hK ht
      exact va_alen hx hb hK (z_sing (h1.2.1 a _ e4)) 0 t0 rfl ht0 rfl hd (hk _ _ _ _ _ _ h H ls locs h1 h2 h3)
  case iastore =>
    obtain rfl := eq_of_beq hln
    have hd := hd0
    obtain ⟨a, x, y, r, rfl, h⟩ := z_iia_inv h
    obtain ⟨ht, hin, h⟩ := h
    have hBa : B ≤ a := h1.2.2.1 a (by rw [ht]; decide) (by rw [ht]; decide) (by rw [ht]; decide)
    refine W.iast hx hb (h1.2.1 a _ (z_e_i ht)) ((hK.2 0 _ rfl).1 _ (fun j => .int (z_a σ a j))) (fun q => by cases q) (by show ¬ (x < 0 ∨ (arrV _ _ _).slots.size ≤ _); rw [arrV_size]; exact hin) rfl rfl hd fun H1 e1 z1 o1 => ?_
    refine hk _ _ _ _ _ _ h H1 ls _ (z_ok_set h1 z1 o1 rfl rfl (fun e2 he2 => ?_) z_e_wa ⟨by rw [ht]; decide, by rw [ht]; decide⟩ (fun q hq => ⟨rfl, by funext j; rw [z_a_wa, if_neg (fun w => hq w.1)]⟩)) h2 (h3.put z1 o1 hBa)
    rw [z_e_i (σ := z_wa σ a x.toNatClampNeg y) ht] at he2
    cases he2
    show H1[a]? = some (vp_cell _ _)
    rw [e1]
    rw [vp_cell_i, vp_cell_i, arrV_store]
    congr 2
    funext q
    unfold updV
    rw [z_a_wa]
    by_cases hq : q = x.toNatClampNeg
    · rw [if_pos hq, if_pos ⟨rfl, hq⟩]
    · rw [if_neg hq, if_neg (fun w => hq w.2)]
  case aastore =>
    obtain rfl := eq_of_beq hln
    have hd := hd0
    obtain ⟨a, v, x, r, rfl, h⟩ := z_ria_inv h
    obtain ⟨hel, hin, h⟩ := h
    have hra : z_ra (z_t σ a) := by
      unfold z_el at hel
      split at hel <;> first | (rename_i e0; rw [e0]; unfold z_ra; omega) | cases hel
    have hBa : B ≤ a := h1.2.2.1 a (by obtain ⟨q1, q2⟩ := hra; omega) (by obtain ⟨q1, q2⟩ := hra; omega) (by obtain ⟨q1, q2⟩ := hra; omega)
    obtain ⟨t, e1, e2, e3, e4⟩ := z_ra_e (cA := cA) hra
    have hra2 := hra
    rw [e1] at hra2
    obtain ⟨t0, ht0⟩ := z_ra_ty hK hra2
    obtain ⟨kA, comp, k1, k2, k3, -⟩ := (hK.2 t0 _ ht0).2
    obtain ⟨d, rd, hdv, hdc, hasg⟩ : ∃ (d : Nat) (rd : vw_C), z_t σ v = d + 1 ∧ z_cl[d]? = some rd ∧ s.vm.assignable (D.1 d) comp = true := by
      rw [e1] at hel
      have same : ∀ (d : Nat) (rd : vw_C), z_cl[d]? = some rd → z_anc t = rd.1 → s.vm.assignable (D.1 d) comp = true := by
        intro d rd hd1 hd2
        have hcls := (hK.1 d rd hd1).2
        rw [hd2] at k3
        rw [Option.some.inj (k3.symm.trans hcls.1)]
        exact va_assign hcls
      have obj : ∀ (d : Nat) (rd : vw_C), z_cl[d]? = some rd → t = 25 → Cond.castable rd.1 "java/lang/Object" ∈ z_nk → s.vm.assignable (D.1 d) comp = true := by
        intro d rd hd1 hd2 hd3
        obtain ⟨c0, t0, f1, f2, f3⟩ := Cond.castable_spec (hN.nest hd3 rfl args)
        have hcls := (hK.1 d rd hd1).2
        subst hd2
        rw [← Option.some.inj (hcls.1.symm.trans f1).symm, ← Option.some.inj (f2.symm.trans k3)]
        exact f3
      match t, hel with
      | 21, hel => exact ⟨1, _, eq_of_beq hel, rfl, same 1 _ rfl rfl⟩
      | 22, hel => exact ⟨5, _, eq_of_beq hel, rfl, same 5 _ rfl rfl⟩
      | 23, hel => exact ⟨0, _, eq_of_beq hel, rfl, same 0 _ rfl rfl⟩
      | 24, hel => exact ⟨3, _, eq_of_beq hel, rfl, same 3 _ rfl rfl⟩
      | 25, hel =>
        have hel' := hel
        simp only [z_el, Bool.and_eq_true, decide_eq_true_eq] at hel'
        obtain ⟨b1, b2⟩ := hel'
        obtain ⟨d, hd9⟩ : ∃ d, z_t σ v = d + 1 := ⟨z_t σ v - 1, by omega⟩
        have hdlt : d < 9 := by omega
        match d, hd9, hdlt with
        | 0, hd9, _ => exact ⟨0, _, hd9, rfl, obj 0 _ rfl rfl z_obj0⟩
        | 1, hd9, _ => exact ⟨1, _, hd9, rfl, obj 1 _ rfl rfl z_obj1⟩
        | 2, hd9, _ => exact ⟨2, _, hd9, rfl, obj 2 _ rfl rfl z_obj2⟩
        | 3, hd9, _ => exact ⟨3, _, hd9, rfl, obj 3 _ rfl rfl z_obj3⟩
        | 4, hd9, _ => exact ⟨4, _, hd9, rfl, obj 4 _ rfl rfl z_obj4⟩
        | 5, hd9, _ => exact ⟨5, _, hd9, rfl, obj 5 _ rfl rfl z_obj5⟩
        | 6, hd9, _ => exact ⟨6, _, hd9, rfl, obj 6 _ rfl rfl z_obj6⟩
        | 7, hd9, _ => exact ⟨7, _, hd9, rfl, obj 7 _ rfl rfl z_obj7⟩
        | 8, hd9, _ => exact ⟨8, _, hd9, rfl, obj 8 _ rfl rfl z_obj8⟩
    obtain ⟨r9, hr9, cellV, g1, g2, g3, -⟩ := h1.2.1 v _ (z_e_o hdv hdc (z_lt20 hdc))
    obtain ⟨kC, hkC, -⟩ := (hK.1 d rd hdc).2.2
    obtain ⟨kX, hkX, -⟩ : ∃ kX : Class, s.vm.classes[comp]? = some kX ∧ True := by
      have hcomp : s.vm.findClass (z_anc t) = some comp := k3
      obtain ⟨i, hi1⟩ := Vm.classAt_of_findClass hcomp
      exact ⟨i, hi1, trivial⟩
    have hlt := z_lt hin
    have h0 : ¬ x < 0 := fun q => hin (Or.inl q)
    refine W.aast hx hb (h1.2.1 a _ e4) (fun q h => by cases h) (fun h => by cases h) k1 k2 rfl hkX ⟨h0, by show _ < (arrV _ _ _).slots.size; rw [arrV_size]; exact hlt⟩ g1 (fun q h => by rw [g3] at h; cases h) (by rw [g2]; exact hkC) (by rw [g2]; exact hasg) rfl rfl hd fun H1 e5 z1 o1 => ?_
    refine hk _ _ _ _ _ _ h H1 ls _ (z_ok_set h1 z1 o1 rfl rfl (fun e6 he6 => ?_) z_e_wq ⟨by rw [e1]; omega, by rw [e1]; omega⟩ (fun q _ => ⟨rfl, rfl⟩)) h2 (h3.put z1 o1 hBa)
    rw [z_e_q (σ := z_wq σ a x.toNatClampNeg (some v)) e1 e2 (by omega) (by omega)] at he6
    cases he6
    show H1[a]? = some (vp_cell _ _)
    rw [e5]
    rw [vp_cell_q, vp_cell_q, arrV_store]
    congr 2
    funext q
    unfold updV
    rw [z_q_wq]
    by_cases hq : q = x.toNatClampNeg
    · rw [if_pos hq, if_pos ⟨rfl, hq⟩]; rfl
    · rw [if_neg hq, if_neg (fun w => hq w.2)]
  case new u =>
    obtain rfl := eq_of_beq hln
    have hd := hd0
    match tg, hax, h with
    | [d, N], hax, h =>
      have hax' := hax
      unfold z_aux at hax'
      simp only [Bool.and_eq_true, decide_eq_true_eq] at hax'
      obtain ⟨C, T, N2, hc, hlk⟩ := (show z_clk own u d from z_CL_ok _ hax'.1)
      obtain ⟨C3, T3, hc3, hin, hini⟩ := (show z_mk d N from z_MK_ok _ hax'.2)
      obtain ⟨rfl, rfl, rfl⟩ : C = C3 ∧ T = T3 ∧ N2 = N := by have := hc.symm.trans hc3; simpa using this
      obtain ⟨hcl1, hcl2, h⟩ := h
      have hKn := hK.1 d _ hc
      refine W.newcK hx hb hown (hts _ hlk) (hts _ hin) (hts _ hini) rfl hd hcl1 hcl2 hKn.2.1 rfl fun H1 kC hkC e1 z1 o1 => ?_
      have hz : H.size = z_z σ := h1.1
      have hok : z_ok D cA B (z_nw σ (d + 1) 0) H1 := by
        refine z_ok_new h1 hBs z1 o1 (fun e2 he2 => ?_) ⟨by have := z_lt20 hc; omega, by have := z_lt20 hc; omega⟩
        rw [z_e_o (σ := z_nw σ (d + 1) 0) (by rw [z_t_nw, if_pos hz]) hc (z_lt20 hc)] at he2
        cases he2
        refine ⟨_, hc, (u_born (z_tyc d) hts (z_uw d _ hc) hKn hkC e1 (z_tyok d _ hc)).to (fun k hk2 => ?_)⟩
        rw [z_fs_V hk2]
        unfold z_f
        rw [z_i_nw, z_r_nw, if_pos hz, if_pos hz]
        rcases z_tyk d _ hc k hk2 with ⟨a1, a2⟩ | ⟨a1, a2⟩
        · rw [a1, a2]; rfl
        · rw [a1]
          rcases a2 with ⟨C2, a2⟩ | ⟨t2, a2⟩ <;> rw [a2] <;> rfl
      have := hk _ _ _ _ _ _ h H1 ls locs hok h2 ⟨Nat.le_trans h3.1 (by omega), fun x g1 g2 => (o1 x (Nat.lt_of_lt_of_le g1 h3.1)).trans (h3.2.1 x g1 g2), h3.2.2⟩
      rw [← hz] at this
      exact this
  case newarray u =>
    obtain rfl := eq_of_beq hln
    have hd := hd0
    obtain ⟨x, r, rfl, h⟩ := z_p1_inv h
    obtain ⟨hneg, hbig, hcl1, hcl2, h⟩ := h
    obtain rfl : u = .int := of_decide_eq_true hax
    have hz : H.size = z_z σ := h1.1
    refine va_newaK (atype := .int) hx hb (hts _ z_arrInt) rfl hd rfl hneg rfl (by show _ * 4 ≤ _; omega) hcl1 hcl2 rfl fun H1 cA1 e1 z1 o1 hAr hNm => ?_
    have hcA : cA1 = cA 20 := Option.some.inj (hNm.symm.trans (hK.2 0 _ rfl).2)
    have hok : z_ok D cA B (z_nw σ 21 x.toNatClampNeg) H1 := by
      refine z_ok_new h1 hBs z1 o1 (fun e2 he2 => ?_) ⟨by decide, by decide⟩
      rw [z_e_i (σ := z_nw σ 21 x.toNatClampNeg) (by rw [z_t_nw, if_pos hz])] at he2
      cases he2
      show H1[H.size]? = some (vp_cell _ _)
      rw [e1, vp_cell_i, hcA, z_n_nw, if_pos hz]
      congr 2
      funext j
      rw [z_a_nw, if_pos hz]
      rfl
    have := hk _ _ _ _ _ _ h H1 ls locs hok h2 ⟨Nat.le_trans h3.1 (by omega), fun x g1 g2 => (o1 x (Nat.lt_of_lt_of_le g1 h3.1)).trans (h3.2.1 x g1 g2), h3.2.2⟩
    rw [← hz] at this
    exact this
  case anewarray u =>
    obtain rfl := eq_of_beq hln
    have hd := hd0
    match tg, hax, h with
    | [t], hax, h =>
      obtain ⟨b1, b2, hlk, hov⟩ := (show z_alk own u t from z_AL_ok _ (of_decide_eq_true hax))
      obtain ⟨x, r, rfl, hneg, hbig, hcl1, hcl2, h⟩ := z_p1_inv h
      have hz : H.size = z_z σ := h1.1
      have hra : z_ra (t + 1) := ⟨by omega, by omega⟩
      obtain ⟨t0, ht0⟩ := z_ra_ty hK hra
      refine W.anew hx hb hown (hts _ hlk) (hN.over hov args) rfl hd rfl hneg (by omega) hcl1 hcl2 fun cA1 kA comp f1 f2 f3 f4 => ?_
      obtain ⟨kA2, comp2, k1, k2, k3, k4⟩ := (hK.2 t0 _ ht0).2
      have hcA : cA1 = cA t := Option.some.inj (f1.symm.trans k4)
      generalize hH1 : H.push ({ cls := cA1, slots := Array.replicate x.toNatClampNeg .null, vm := .none } : Cell) = H1
      have z1 : H1.size = H.size + 1 := by rw [← hH1, Array.size_push]
      have e1 : H1[H.size]? = some (arrV cA1 x.toNatClampNeg (fun _ => .null)) := by rw [← hH1, Array.getElem?_push_size, ← arrV_new]
      have o1 : ∀ q : Nat, q < H.size → H1[q]? = H[q]? := fun q hq => by rw [← hH1, Array.getElem?_push, if_neg (Nat.ne_of_lt hq)]
      have hok : z_ok D cA B (z_nw σ (t + 1) x.toNatClampNeg) H1 := by
        refine z_ok_new h1 hBs z1 o1 (fun e2 he2 => ?_) ⟨by omega, by omega⟩
        rw [z_e_q (σ := z_nw σ (t + 1) x.toNatClampNeg) (t := t) (by rw [z_t_nw, if_pos hz]) b1 (by omega) (by omega)] at he2
        cases he2
        show H1[H.size]? = some (vp_cell _ _)
        rw [e1, vp_cell_q, hcA, z_n_nw, if_pos hz]
        congr 2
        funext j
        rw [z_q_nw, if_pos hz]
        rfl
      have := hk _ _ _ _ _ _ h H1 ls locs hok h2 ⟨Nat.le_trans h3.1 (by omega), fun x g1 g2 => (o1 x (Nat.lt_of_lt_of_le g1 h3.1)).trans (h3.2.1 x g1 g2), h3.2.2⟩
      rw [← hz] at this
      exact this
  case getstatic u =>
    obtain rfl := eq_of_beq hln
    have hd := hd0
    have hax' := hax
    simp only [z_aux, Bool.and_eq_true, decide_eq_true_eq] at hax'
    obtain ⟨ho, rfl⟩ := hax'
    subst ho
    obtain ⟨cf, kf, fi, f, a, cell, q1, q2, q3, q4, q5, q6, q7, q8⟩ := hZs.1
    have hlk : Cond.fieldLink "java/util/ArrayList" 39 "java/util/ArrayList" "DEFAULTCAPACITY_EMPTY_ELEMENTDATA" "[Ljava/lang/Object;" ∈ z_wd := z_stat
    exact W.gets hx hb hown (hts _ hlk) q1 q2 q3 q4 (by rw [h3.2.1 a (Array.getElem?_eq_some_iff.mp q5).1 q8]; exact q5) (fun e => by rw [e] at q6; cases q6) q7 rfl hd (hk _ _ _ _ _ _ (h _ h1.2.2.2.2.1) H ls locs h1 h2 h3)
  case checkcast u =>
    obtain rfl := eq_of_beq hln
    have hd := hd0
    match tg, hax, h with
    | [d], hax, h =>
      obtain ⟨C, T, N, hc, hlk⟩ := (show z_clk own u d from z_CL_ok _ (of_decide_eq_true hax))
      obtain ⟨x, r, rfl, hr, ht, h⟩ := z_v1_inv h
      obtain ⟨q, rfl⟩ : ∃ q, x = va_rf q := ⟨_, hr⟩
      cases q with
      | none => exact lv_castN hx hb hd (hk _ _ _ _ _ _ h H ls locs h1 h2 h3)
      | some a =>
        have ht1 := ht a rfl
        obtain ⟨r9, hr9, cell, g1, g2, g3, -⟩ := h1.2.1 a _ (z_e_o ht1 hc (z_lt20 hc))
        have hcls := (hK.1 d _ hc).2
        exact va_castS hx hb hown (hts _ hlk) hcls ⟨cell, g1, by rw [g3]; rfl, by rw [g2]; exact hcls.1⟩ hd (hk _ _ _ _ _ _ h H ls locs h1 h2 h3)
  case invokevirtual u =>
    obtain rfl := eq_of_beq hln
    have hd := hd0
    have h' : z_inv (z_fc cl (4 * u)) R.cells R.slots K (pc + 3) lv st σ cells slots := h
    unfold z_inv at h'
    split at h'
    · rename_i k PT mc ms hq
      obtain ⟨g1, g2, g3, g4, g5⟩ := h'
      exact hcl (4 * u) _ hq _ pc lv st σ cells slots _ (Or.inl ⟨u, rfl, rfl⟩) hd g1 g2 g3 g4 g5 (fun v σ2 hv => hk _ _ _ _ _ _ hv) H ls locs h1 h2 h3
    · exact h'.elim
  case invokespecial u =>
    obtain rfl := eq_of_beq hln
    have hd := hd0
    have h' : z_inv (z_fc cl (4 * u + 1)) R.cells R.slots K (pc + 3) lv st σ cells slots := h
    unfold z_inv at h'
    split at h'
    · rename_i k PT mc ms hq
      obtain ⟨g1, g2, g3, g4, g5⟩ := h'
      exact hcl (4 * u + 1) _ hq _ pc lv st σ cells slots _ (Or.inr (Or.inl ⟨u, rfl, rfl⟩)) hd g1 g2 g3 g4 g5 (fun v σ2 hv => hk _ _ _ _ _ _ hv) H ls locs h1 h2 h3
    · exact h'.elim
  case invokestatic u =>
    obtain rfl := eq_of_beq hln
    have hd := hd0
    have h' : z_inv (z_fc cl (4 * u + 2)) R.cells R.slots K (pc + 3) lv st σ cells slots := h
    unfold z_inv at h'
    split at h'
    · rename_i k PT mc ms hq
      obtain ⟨g1, g2, g3, g4, g5⟩ := h'
      exact hcl (4 * u + 2) _ hq _ pc lv st σ cells slots _ (Or.inr (Or.inr ⟨u, rfl, rfl⟩)) hd g1 g2 g3 g4 g5 (fun v σ2 hv => hk _ _ _ _ _ _ hv) H ls locs h1 h2 h3
    · exact h'.elim
  case ireturn =>
    obtain rfl := eq_of_beq hln
    have hd := hd0
    obtain ⟨x, r, rfl, h⟩ := z_p1_inv h
    obtain ⟨rfl, hb2, h⟩ := h
    exact hret _ _ _ _ _ _ _ _ _ (Or.inl ⟨rfl, of_decide_eq_true hax, x, rfl, hb2⟩) hd h h1 h3
  case lreturn =>
    obtain rfl := eq_of_beq hln
    have hd := hd0
    obtain ⟨x, r, rfl, h⟩ := z_l1_inv h
    obtain ⟨hr0, h9⟩ := h
    subst hr0
    exact hret _ _ _ _ _ _ _ _ _ (Or.inr (Or.inl ⟨rfl, of_decide_eq_true hax, x, rfl⟩)) hd h9 h1 h3
  case dreturn =>
    obtain rfl := eq_of_beq hln
    have hd := hd0
    obtain ⟨x, r, rfl, h⟩ := z_d1_inv h
    obtain ⟨hr0, h9⟩ := h
    subst hr0
    exact hret _ _ _ _ _ _ _ _ _ (Or.inr (Or.inr (Or.inl ⟨rfl, of_decide_eq_true hax, x, rfl⟩))) hd h9 h1 h3
  case areturn =>
    obtain rfl := eq_of_beq hln
    have hd := hd0
    obtain ⟨x, r, rfl, h⟩ := z_v1_inv h
    obtain ⟨rfl, hr, h⟩ := h
    obtain ⟨q, rfl⟩ : ∃ q, x = va_rf q := ⟨_, hr⟩
    exact hret _ _ _ _ _ _ _ _ _ (Or.inr (Or.inr (Or.inr (Or.inl ⟨rfl, of_decide_eq_true hax, q, rfl⟩)))) hd h h1 h3
  case return_ =>
    obtain rfl := eq_of_beq hln
    have hd := hd0
    obtain ⟨rfl, h⟩ := h
    exact hret _ _ _ _ _ _ _ _ _ (Or.inr (Or.inr (Or.inr (Or.inr ⟨rfl, of_decide_eq_true hax, rfl⟩)))) hd h h1 h3

theorem z_at_mem {T : List zR} {pc : Nat} {q : Instr × List Nat} (h : z_at T pc = some q) : ∃ len, (pc, q.1, len, q.2) ∈ T := by
  induction T with
  | nil => cases h
  | cons r t ih =>
    unfold z_at at h
    split at h
    · rename_i e
      cases h
      exact ⟨r.2.2.1, by rw [← e]; exact List.mem_cons_self⟩
    · obtain ⟨len, hm⟩ := ih h
      exact ⟨len, List.mem_cons_of_mem _ hm⟩
theorem z_hd_snd (X : z_Cx p s m args meth c cc nL D cA B H0 own ini) {T : List zR} {rk : Nat} (hT : z_tok own ini nL rk cc T) {cl : List zC} {po : Option Value → bS → Nat → Nat → Prop} {K : zK}
    (hcl : ∀ u q, z_fc cl u = some q → z_CallOK p l e R s m args below meth c Q nL D cA B H0 cc u q) (hret : z_RetOK p l e R s m args below meth c Q D cA B H0 cc rk po)
    (hk : ∀ pc lv st σ cells slots, K pc lv st σ cells slots → z_Sem p l e R s m args below meth c Q nL D cA B H0 pc lv st σ cells slots)
    {pc : Nat} {lv : List (Nat × Value)} {st : List Value} {σ : bS} {cells slots : Nat} (h : z_hd T cl po R.cells R.slots rk K pc lv st σ cells slots) : z_Sem p l e R s m args below meth c Q nL D cA B H0 pc lv st σ cells slots := by
  unfold z_hd z_op at h
  split at h
  · rename_i q hq
    obtain ⟨len, hm⟩ := z_at_mem hq
    obtain ⟨hd, ha⟩ := hT _ hm
    simp only [Bool.and_eq_true] at ha
    exact z_st_snd X hcl hret hk hd ha.1 ha.2 h
  · exact h.elim
theorem z_wp_snd (X : z_Cx p s m args meth c cc nL D cA B H0 own ini) {T : List zR} {rk : Nat} (hT : z_tok own ini nL rk cc T) {cl : List zC} {po : Option Value → bS → Nat → Nat → Prop} {K : zK} {cut : List (Nat × List Nat)}
    (hcl : ∀ u q, z_fc cl u = some q → z_CallOK p l e R s m args below meth c Q nL D cA B H0 cc u q) (hret : z_RetOK p l e R s m args below meth c Q D cA B H0 cc rk po)
    (hk : ∀ pc lv st σ cells slots, K pc lv st σ cells slots → z_Sem p l e R s m args below meth c Q nL D cA B H0 pc lv st σ cells slots)
    (f : Nat) : ∀ {pc : Nat} {lv : List (Nat × Value)} {st : List Value} {σ : bS} {cells slots : Nat}, z_wp T cl po R.cells R.slots rk cut K f pc lv st σ cells slots → z_Sem p l e R s m args below meth c Q nL D cA B H0 pc lv st σ cells slots := by
  induction f with
  | zero => intro pc lv st σ cells slots h; exact hk _ _ _ _ _ _ h
  | succ f ih =>
    intro pc lv st σ cells slots h
    rw [zs_wp] at h
    unfold z_cu at h
    split at h
    · intro H ls locs h1 h2 h3
      exact hk _ _ _ _ _ _ h H ls locs h1 (z_has_sub h2 z_pk_mem) h3
    · exact z_hd_snd X hT hcl hret (fun _ _ _ _ _ _ h => ih h) h
end ZT
