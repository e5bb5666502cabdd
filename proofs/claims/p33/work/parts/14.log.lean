/-! ===== numbers of the instructions, special callees ===== -/
theorem zc_f0 : ((0 : Fin 4) : Nat) = 0 := rfl
theorem zc_f1 : ((1 : Fin 4) : Nat) = 1 := rfl
theorem zc_f2 : ((2 : Fin 4) : Nat) = 2 := rfl
theorem zc_f3 : ((3 : Fin 4) : Nat) = 3 := rfl
theorem zs_args0 (i : Nat) : lv_args i [] = [] := rfl
theorem zs_args (i : Nat) (v : Value) (r : List Value) : lv_args i (v :: r) = (i, v) :: lv_args (if v.category = 2 then i + 2 else i + 1) r := rfl
def pX1_isInWater : zPT := fun as σ K => match as with
  | [.ref g] => z_t σ g = 2 ∧ K (some (.int (if z_i σ 1 6 g = 1 ∨ z_i σ 1 6 g = 2 ∨ z_i σ 1 6 g = 5 ∨ z_i σ 1 6 g = 6 ∨ z_i σ 1 6 g = 7 then 1 else 0))) σ
  | _ => False
abbrev rX1_isInWater : Room := { frames := 0, cells := 0, slots := 0, locals := 0 }
def clX1_isInWater : List zC := []
set_option maxRecDepth 20000 in
theorem kX1_isInWater (l : Launch) : ∀ q ∈ clX1_isInWater, z_CallP l RX1 cX1_isInWater 1 rX1_isInWater q := by
  intro q hq
  cases hq
set_option maxHeartbeats 4000000 in
set_option maxRecDepth 20000 in
theorem gX1_isInWater : ∀ (as : List Value) (σ : bS) (Kp : Option Value → bS → Prop), pX1_isInWater as σ Kp → ∀ K : zK, z_Cl tX1_isInWater clX1_isInWater (fun v σ c n => Kp v σ ∧ c ≤ 0 ∧ n ≤ 0) 0 0 2 K → K 0 (lv_args 0 as) [] σ 0 0 := by
  intro as σ Kp hp K hK
  unfold pX1_isInWater at hp
  split at hp
  · rename_i g
    obtain ⟨hg, hp⟩ := hp
    refine hK.1 [] 60 _ _ _ _ _ _ ?_
    simp only [ze_iconst, ze_bipush, ze_sipush, ze_lconst, ze_dconst, ze_aconst_null, ze_ldc, ze_ldc_w, ze_ldc2_w, ze_ldc2_w1, ze_iload, ze_iload_n, ze_lload, ze_lload_n, ze_aload, ze_aload_n, ze_istore, ze_istore_n, ze_lstore, ze_lstore_n, ze_astore, ze_astore_n, ze_iinc, ze_iadd, ze_isub, ze_imul, ze_iand, ze_ior, ze_ixor, ze_ishl, ze_ishr, ze_idiv, ze_irem, ze_ineg, ze_ladd, ze_lsub, ze_lmul, ze_ldiv, ze_lcmp, ze_i2l, ze_l2i, ze_i2d, ze_ddiv, ze_dmul, ze_dsub, ze_dcmp, ze_dup, ze_pop, ze_dup_x1, ze_dup2, ze_goto, ze_ifnull, ze_ifnonnull, ze_getfield, ze_getfield1, ze_putfield, ze_putfield1, ze_iaload, ze_aaload, ze_iastore, ze_aastore, ze_getstatic, ze_arraylength, ze_new, ze_newarray, ze_anewarray, ze_checkcast, ze_invokevirtual, ze_invokespecial, ze_invokestatic, ze_ireturn, ze_lreturn, ze_dreturn, ze_areturn, ze_return_, ze_tableswitch, ze_ifCond_eq, ze_ifCond_ne, ze_ifCond_lt, ze_ifCond_ge, ze_ifCond_gt, ze_ifCond_le, ze_if_icmp_eq, ze_if_icmp_ne, ze_if_icmp_lt, ze_if_icmp_ge, ze_if_icmp_gt, ze_if_icmp_le, ze_acmp_eq, ze_acmp_ne, zs_ldi, zs_ldl, zs_lda, zs_inc, zs_sw0, zs_sw, zs_cb, zs_cb0, zs_inv0, zs_inv1, zs_inv2, zs_inv3, zs_inv4, zs_inv5, zs_inv6, zs_gl, zs_rm0, zs_rm, zs_rm20, zs_rm2, zs_p0, zs_p00, zs_gl0, zs_pk0, zs_pk, zs_fc, zs_ck0, zs_ck, zs_cat0, zs_cat, zs_ci, zs_cl, zs_cd, zs_cr, zs_cn, zs_cf, zs_cu, zs_cu0, zs_wp, zs_wp0, z_rf_ref, z_rf_null, z_rf_rf, z_o_ref, z_o_null, z_o_rf, va_rf_some, va_rf_none, if_pos, if_neg, reduceIte, Nat.reduceAdd, Nat.reduceMul, Nat.reduceSub, Nat.reduceEqDiff, Nat.reduceLeDiff, Nat.reduceBEq, and_true, true_and, or_true, true_or, or_false, false_or, and_false, false_and, and_self, or_self, implies_true, forall_const, not_true_eq_false, not_false_eq_true, reduceCtorEq, Nat.zero_add, Nat.add_zero, Nat.add_eq_right, Nat.add_right_cancel_iff, Nat.succ_ne_zero, Nat.le_refl, true_implies, false_implies, Option.some.injEq, zc_f0, zc_f1, zc_f2, zc_f3, zs_args, zs_args0, List.length_cons, List.length_nil, hX1_isInWater_0, hX1_isInWater_1, hX1_isInWater_4, hX1_isInWater_5, hX1_isInWater_8, hX1_isInWater_9, hX1_isInWater_12, hX1_isInWater_13, hX1_isInWater_16, hX1_isInWater_17, hX1_isInWater_20, hX1_isInWater_21, hX1_isInWater_24, hX1_isInWater_25, hX1_isInWater_28, hX1_isInWater_30, hX1_isInWater_33, hX1_isInWater_34, hX1_isInWater_37, hX1_isInWater_39, hX1_isInWater_42, hX1_isInWater_43, hX1_isInWater_46, hX1_isInWater_47, clX1_isInWater, hg]
    trace_state
    sorry
  · exact hp.elim
theorem ctX1_isInWater (l : Launch) : z_Ct l yX1_isInWater cX1_isInWater 1 (some .boolean) rX1_isInWater pX1_isInWater 0 0 := z_Ct_of (T := tX1_isInWater) (cl := clX1_isInWater) (rk := 2) (by decide +kernel) false (fun h => by first | rfl | cases h) oX1_isInWater (by first | exact Or.inl ⟨rfl, rfl⟩ | exact Or.inr (Or.inl ⟨rfl, rfl⟩) | exact Or.inr (Or.inr (Or.inl ⟨rfl, rfl⟩)) | exact Or.inr (Or.inr (Or.inr (Or.inl ⟨rfl, rfl⟩))) | exact Or.inr (Or.inr (Or.inr (Or.inr (Or.inl ⟨rfl, rfl⟩)))) | exact Or.inr (Or.inr (Or.inr (Or.inr (Or.inr ⟨rfl, Or.inl ⟨_, rfl⟩⟩)))) | exact Or.inr (Or.inr (Or.inr (Or.inr (Or.inr ⟨rfl, Or.inr ⟨_, rfl⟩⟩))))) rfl rfl (kX1_isInWater l) (by intro as σ K h; unfold pX1_isInWater at h; split at h <;> first | (simp [lg_sl, Value.category]; done) | exact h.elim) gX1_isInWater
def pX0_append : zPT := fun as σ K => match as with
  | [.ref L, .ref g] => ∃ A : Nat, z_t σ L = 1 ∧ z_t σ g = 2 ∧ z_r σ 0 0 L = some A ∧ z_t σ A = 22 ∧ z_n σ A = 40 ∧ ∃ n : Nat, z_i σ 0 1 L = nI n ∧ (n < 40 → K none (z_wi (z_wq σ A n (some g)) 0 1 L (nI (n + 1)))) ∧ (40 ≤ n → K none σ)
  | _ => False
abbrev rX0_append : Room := { frames := 0, cells := 0, slots := 0, locals := 0 }
def clX0_append : List zC := []
set_option maxRecDepth 20000 in
theorem kX0_append (l : Launch) : ∀ q ∈ clX0_append, z_CallP l RX0 cX0_append 2 rX0_append q := by
  intro q hq
  cases hq
set_option maxHeartbeats 4000000 in
set_option maxRecDepth 20000 in
theorem gX0_append : ∀ (as : List Value) (σ : bS) (Kp : Option Value → bS → Prop), pX0_append as σ Kp → ∀ K : zK, z_Cl tX0_append clX0_append (fun v σ c n => Kp v σ ∧ c ≤ 0 ∧ n ≤ 0) 0 0 0 K → K 0 (lv_args 0 as) [] σ 0 0 := by
  intro as σ Kp hp K hK
  unfold pX0_append at hp
  split at hp
  · rename_i L g
    obtain ⟨A, h1, h2, h3, h4, h5, n, h6, hp1, hp2⟩ := hp
    refine hK.1 [] 60 _ _ _ _ _ _ ?_
    simp only [ze_iconst, ze_bipush, ze_sipush, ze_lconst, ze_dconst, ze_aconst_null, ze_ldc, ze_ldc_w, ze_ldc2_w, ze_ldc2_w1, ze_iload, ze_iload_n, ze_lload, ze_lload_n, ze_aload, ze_aload_n, ze_istore, ze_istore_n, ze_lstore, ze_lstore_n, ze_astore, ze_astore_n, ze_iinc, ze_iadd, ze_isub, ze_imul, ze_iand, ze_ior, ze_ixor, ze_ishl, ze_ishr, ze_idiv, ze_irem, ze_ineg, ze_ladd, ze_lsub, ze_lmul, ze_ldiv, ze_lcmp, ze_i2l, ze_l2i, ze_i2d, ze_ddiv, ze_dmul, ze_dsub, ze_dcmp, ze_dup, ze_pop, ze_dup_x1, ze_dup2, ze_goto, ze_ifnull, ze_ifnonnull, ze_getfield, ze_getfield1, ze_putfield, ze_putfield1, ze_iaload, ze_aaload, ze_iastore, ze_aastore, ze_getstatic, ze_arraylength, ze_new, ze_newarray, ze_anewarray, ze_checkcast, ze_invokevirtual, ze_invokespecial, ze_invokestatic, ze_ireturn, ze_lreturn, ze_dreturn, ze_areturn, ze_return_, ze_tableswitch, ze_ifCond_eq, ze_ifCond_ne, ze_ifCond_lt, ze_ifCond_ge, ze_ifCond_gt, ze_ifCond_le, ze_if_icmp_eq, ze_if_icmp_ne, ze_if_icmp_lt, ze_if_icmp_ge, ze_if_icmp_gt, ze_if_icmp_le, ze_acmp_eq, ze_acmp_ne, zs_ldi, zs_ldl, zs_lda, zs_inc, zs_sw0, zs_sw, zs_cb, zs_cb0, zs_inv0, zs_inv1, zs_inv2, zs_inv3, zs_inv4, zs_inv5, zs_inv6, zs_gl, zs_rm0, zs_rm, zs_rm20, zs_rm2, zs_p0, zs_p00, zs_gl0, zs_pk0, zs_pk, zs_fc, zs_ck0, zs_ck, zs_cat0, zs_cat, zs_ci, zs_cl, zs_cd, zs_cr, zs_cn, zs_cf, zs_cu, zs_cu0, zs_wp, zs_wp0, z_rf_ref, z_rf_null, z_rf_rf, z_o_ref, z_o_null, z_o_rf, va_rf_some, va_rf_none, if_pos, if_neg, reduceIte, Nat.reduceAdd, Nat.reduceMul, Nat.reduceSub, Nat.reduceEqDiff, Nat.reduceLeDiff, Nat.reduceBEq, and_true, true_and, or_true, true_or, or_false, false_or, and_false, false_and, and_self, or_self, implies_true, forall_const, not_true_eq_false, not_false_eq_true, reduceCtorEq, Nat.zero_add, Nat.add_zero, Nat.add_eq_right, Nat.add_right_cancel_iff, Nat.succ_ne_zero, Nat.le_refl, true_implies, false_implies, Option.some.injEq, zc_f0, zc_f1, zc_f2, zc_f3, zs_args, zs_args0, List.length_cons, List.length_nil, z_t_wi, z_i_wi, z_r_wi, z_n_wi, z_a_wi, z_q_wi, z_z_wi, z_t_wr, z_i_wr, z_r_wr, z_n_wr, z_a_wr, z_q_wr, z_z_wr, z_t_wa, z_i_wa, z_r_wa, z_n_wa, z_a_wa, z_q_wa, z_z_wa, z_t_wq, z_i_wq, z_r_wq, z_n_wq, z_a_wq, z_q_wq, z_z_wq, z_t_nw, z_i_nw, z_r_nw, z_n_nw, z_a_nw, z_q_nw, z_z_nw, hX0_append_0, hX0_append_1, hX0_append_4, hX0_append_5, hX0_append_8, hX0_append_9, hX0_append_12, hX0_append_13, hX0_append_16, hX0_append_17, hX0_append_20, hX0_append_21, hX0_append_22, hX0_append_23, hX0_append_24, hX0_append_27, hX0_append_28, hX0_append_29, hX0_append_32, clX0_append, h1, h2, h3, h4, h5, h6]
    trace_state
    sorry
  · exact hp.elim
theorem ctX0_append (l : Launch) : z_Ct l yX0_append cX0_append 2 (none) rX0_append pX0_append 0 0 := z_Ct_of (T := tX0_append) (cl := clX0_append) (rk := 0) (by decide +kernel) false (fun h => by first | rfl | cases h) oX0_append (by first | exact Or.inl ⟨rfl, rfl⟩ | exact Or.inr (Or.inl ⟨rfl, rfl⟩) | exact Or.inr (Or.inr (Or.inl ⟨rfl, rfl⟩)) | exact Or.inr (Or.inr (Or.inr (Or.inl ⟨rfl, rfl⟩))) | exact Or.inr (Or.inr (Or.inr (Or.inr (Or.inl ⟨rfl, rfl⟩)))) | exact Or.inr (Or.inr (Or.inr (Or.inr (Or.inr ⟨rfl, Or.inl ⟨_, rfl⟩⟩)))) | exact Or.inr (Or.inr (Or.inr (Or.inr (Or.inr ⟨rfl, Or.inr ⟨_, rfl⟩⟩))))) rfl rfl (kX0_append l) (by intro as σ K h; unfold pX0_append at h; split at h <;> first | (simp [lg_sl, Value.category]; done) | exact h.elim) gX0_append
