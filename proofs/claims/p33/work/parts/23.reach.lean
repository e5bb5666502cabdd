/-! ===== a new reach ===== -/
def v_newline (σ : bS) (L : Nat) : Prop := z_t σ L = 1 ∧ z_r σ 0 0 L = some (L + 1) ∧ z_t σ (L + 1) = 22 ∧ z_n σ (L + 1) = 40 ∧ z_i σ 0 1 L = 0
def v_newreach (σ : bS) (x : Nat) (k : Int32) (z : Nat) : Prop := z_i σ 5 0 x = k ∧ z_i σ 5 1 x = 0 ∧ z_i σ 5 2 x = 3 ∧ z_i σ 5 3 x = 0 ∧ z_i σ 5 4 x = 0 ∧ z_r σ 5 5 x = some z ∧ z_r σ 5 6 x = some (z + 2) ∧ v_newline σ z ∧ v_newline σ (z + 2)
def pX5_init : zPT := fun as σ K => match as with
  | [.ref x, .int k] => z_t σ x = 6 ∧ x < z_z σ ∧ ∀ σ', v_ex (fun y => y = x) (z_z σ) σ σ' → (v_env σ → v_env σ') → z_z σ' = z_z σ + 4 → v_newreach σ' x k (z_z σ) → K none σ'
  | _ => False
abbrev rX5_init : Room := { frames := 2, cells := 4, slots := 84, locals := 40 }
def clX5_init : List zC := [(13, 1, p_objinit, 0, 0), (105, 1, (z_PV 0 pX0_init), 1, 40)]
set_option maxRecDepth 20000 in
theorem kX5_init (l : Launch) : ∀ q ∈ clX5_init, z_CallP l RX5 cX5_init 2 rX5_init q := by
  intro q hq
  simp only [clX5_init, List.mem_cons, List.not_mem_nil, or_false] at hq
  rcases hq with rfl | rfl
  · exact z_P_objinit (u := 3) (z_in 147 (by decide +kernel) (by decide +kernel)) (by decide) (by decide)
  · exact z_PV_IN (l := l) (own := RX5) (cc := cX5_init) (nL := 2) (R := rX5_init) (u := 26) (d := 0) (n := 0) (host := "BoomSorters") (ctX0_init l) wX0_init (by intro w hw; simp only [List.mem_cons, List.not_mem_nil, or_false] at hw; rcases hw with rfl | rfl; exact z_in 124 (by decide +kernel) (by decide +kernel); exact z_in 59 (by decide +kernel) (by decide +kernel)) (z_in2 149 (by decide +kernel) (by decide +kernel)) rfl rfl rfl ⟨by decide, by decide, by decide +kernel⟩ ⟨by decide, by decide⟩
set_option maxHeartbeats 4000000 in
set_option maxRecDepth 20000 in
theorem gX5_init : ∀ (as : List Value) (σ : bS) (Kp : Option Value → bS → Prop), pX5_init as σ Kp → ∀ K : zK, z_Cl tX5_init clX5_init (fun v σ c n => Kp v σ ∧ c ≤ 4 ∧ n ≤ 84) 4 84 0 K → K 0 (lv_args 0 as) [] σ 0 0 := by
  intro as σ Kp hp K hK
  unfold pX5_init at hp
  split at hp
  · rename_i x k
    obtain ⟨h1, h2, hp⟩ := hp
    obtain ⟨x', rfl⟩ : ∃ x' : Nat, x' = x := ⟨x, rfl⟩
    replace h2 : (x' : Nat) < z_z σ := h2
    have e1 : (x' = z_z σ) = False := eq_false (by omega)
    have e2 : (x' = z_z σ + 1) = False := eq_false (by omega)
    have e3 : (x' = z_z σ + 1 + 1) = False := eq_false (by omega)
    have e4 : (x' = z_z σ + 1 + 1 + 1) = False := eq_false (by omega)
    have f1 : (z_z σ = z_z σ + 1) = False := eq_false (by omega)
    have f2 : (z_z σ = z_z σ + 1 + 1) = False := eq_false (by omega)
    have f3 : (z_z σ + 1 + 1 = z_z σ + 1) = False := eq_false (by omega)
    have f4 : (z_z σ + 1 + 1 = z_z σ) = False := eq_false (by omega)
    have f7 : (z_z σ = z_z σ + 1 + 1 + 1) = False := eq_false (by omega)
    have f5 : (z_z σ < z_z σ + 1) = True := eq_true (by omega)
    have f6 : (z_z σ + 1 + 1 < z_z σ + 1 + 1 + 1) = True := eq_true (by omega)
    refine hK.1 [] 90 _ _ _ _ _ _ ?_
    simp only [ze_iconst, ze_bipush, ze_sipush, ze_lconst, ze_dconst, ze_aconst_null, ze_ldc, ze_ldc_w, ze_ldc2_w, ze_ldc2_w1, ze_iload, ze_iload_n, ze_lload, ze_lload_n, ze_aload, ze_aload_n, ze_istore, ze_istore_n, ze_lstore, ze_lstore_n, ze_astore, ze_astore_n, ze_iinc, ze_iadd, ze_isub, ze_imul, ze_iand, ze_ior, ze_ixor, ze_ishl, ze_ishr, ze_idiv, ze_irem, ze_ineg, ze_ladd, ze_lsub, ze_lmul, ze_ldiv, ze_lcmp, ze_i2l, ze_l2i, ze_i2d, ze_ddiv, ze_dmul, ze_dsub, ze_dcmp, ze_dup, ze_pop, ze_dup_x1, ze_dup2, ze_goto, ze_ifnull, ze_ifnonnull, ze_getfield, ze_getfield1, ze_putfield, ze_putfield1, ze_iaload, ze_aaload, ze_iastore, ze_aastore, ze_getstatic, ze_arraylength, ze_new, ze_newarray, ze_anewarray, ze_checkcast, ze_invokevirtual, ze_invokespecial, ze_invokestatic, ze_ireturn, ze_lreturn, ze_dreturn, ze_areturn, ze_return_, ze_tableswitch, ze_ifCond_eq, ze_ifCond_ne, ze_ifCond_lt, ze_ifCond_ge, ze_ifCond_gt, ze_ifCond_le, ze_if_icmp_eq, ze_if_icmp_ne, ze_if_icmp_lt, ze_if_icmp_ge, ze_if_icmp_gt, ze_if_icmp_le, ze_acmp_eq, ze_acmp_ne, zs_ldi, zs_ldl, zs_lda, zs_inc, zs_sw0, zs_sw, zs_cb, zs_cb0, zs_inv0, zs_inv1, zs_inv2, zs_inv3, zs_inv4, zs_inv5, zs_inv6, zs_gl, zs_rm0, zs_rm, zs_rm20, zs_rm2, zs_p0, zs_p00, zs_gl0, zs_pk0, zs_pk, zs_fc, zs_ck0, zs_ck, zs_cat0, zs_cat, zs_ci, zs_cl, zs_cd, zs_cr, zs_cn, zs_cf, zs_cu, zs_cu0, zs_wp, zs_wp0, z_rf_ref, z_rf_null, z_rf_rf, z_o_ref, z_o_null, z_o_rf, va_rf_some, va_rf_none, zc_om1, zc_o0, zc_o1, zc_o2, zc_o3, zc_o4, zc_o5, zc_o6, zc_o7, zc_o8, zc_om4, zc_bm2, zc_b6, zc_b7, zc_b8, zc_b9, zc_b10, zc_b11, zc_b12, zc_b14, zc_b15, zc_b16, zc_b17, zc_b18, zc_b20, zc_b21, zc_b22, zc_b24, zc_b30, zc_b40, zc_b41, zc_b60, zc_b63, zc_b64, zc_b66, zc_b76, zc_nI, if_pos, if_neg, reduceIte, Nat.reduceAdd, Nat.reduceMul, Nat.reduceSub, Nat.reduceEqDiff, Nat.reduceLeDiff, Nat.reduceBEq, and_true, true_and, or_true, true_or, or_false, false_or, and_false, false_and, and_self, or_self, implies_true, forall_const, not_true_eq_false, not_false_eq_true, reduceCtorEq, Nat.zero_add, Nat.add_zero, Nat.add_eq_right, Nat.add_right_cancel_iff, Nat.succ_ne_zero, Nat.le_refl, true_implies, false_implies, Option.some.injEq, zc_f0, zc_f1, zc_f2, zc_f3, zs_args, zs_args0, List.length_cons, List.length_nil, z_t_wi, z_i_wi, z_r_wi, z_n_wi, z_a_wi, z_q_wi, z_z_wi, z_t_wr, z_i_wr, z_r_wr, z_n_wr, z_a_wr, z_q_wr, z_z_wr, z_t_wa, z_i_wa, z_r_wa, z_n_wa, z_a_wa, z_q_wa, z_z_wa, z_t_wq, z_i_wq, z_r_wq, z_n_wq, z_a_wq, z_q_wq, z_z_wq, z_t_nw, z_i_nw, z_r_nw, z_n_nw, z_a_nw, z_q_nw, z_z_nw, z_t_uq, z_i_uq, z_r_uq, z_n_uq, z_a_uq, z_z_uq, z_q_uq, ↓zs_PV, zs_rcv, hX5_init_0, hX5_init_1, hX5_init_4, hX5_init_5, hX5_init_6, hX5_init_9, hX5_init_10, hX5_init_11, hX5_init_14, hX5_init_15, hX5_init_16, hX5_init_19, hX5_init_20, hX5_init_21, hX5_init_24, hX5_init_25, hX5_init_28, hX5_init_29, hX5_init_32, hX5_init_35, hX5_init_36, hX5_init_39, hX5_init_40, hX5_init_43, hX5_init_46, hX5_init_47, hX5_init_48, hX5_init_51, clX5_init, ↓p_objinit, ↓pX0_init, h1, e1, e2, e3, e4, f1, f2, f3, f4, f5, f6]
    have hw : ∀ (s : bS) (k : Nat) (v : Int32), v_ex (fun y => y = x') (z_z σ) σ s → v_ex (fun y => y = x') (z_z σ) σ (z_wi s 5 k x' v) := fun s k v hs => hs.tr (v_ex.wi (Or.inl rfl))
    have hv : ∀ (s : bS) (k : Nat) (v : Option Nat), v_ex (fun y => y = x') (z_z σ) σ s → v_ex (fun y => y = x') (z_z σ) σ (z_wr s 5 k x' v) := fun s k v hs => hs.tr (v_ex.wr (Or.inl rfl))
    have q0 := hw _ 4 0 (hw _ 3 0 (hw _ 2 3 (hw _ 1 0 v_ex.rf)))
    have line : ∀ (s : bS) (L : Nat), v_ex (fun y => y = x') (z_z σ) σ s → L = z_z s → z_z σ ≤ L → v_ex (fun y => y = x') (z_z σ) σ (z_wi (z_wr (z_nw (z_nw s 1 0) 22 40) 0 0 L (some (L + 1))) 0 1 L 0) := fun s L hs hL hB => (((hs.tr (v_ex.nw (by omega))).tr (v_ex.nw (by rw [z_z_nw]; omega))).tr (v_ex.wr (Or.inr hB))).tr (v_ex.wi (Or.inr hB))
    have q1 := line _ (z_z σ) q0 rfl (Nat.le_refl _)
    have q2 := line _ (z_z σ + 1 + 1) (hv _ 5 (some (z_z σ)) q1) rfl (by omega)
    refine hp _ (hw _ 0 k (hv _ 6 (some (z_z σ + 1 + 1)) q2)) (fun h => ?_) rfl ?_
    · have g1 : v_env (z_nw (z_nw σ 1 0) 22 40) := (h.nw (by decide)).nw (by decide)
      have g2 : v_env (z_nw (z_nw (z_nw (z_nw σ 1 0) 22 40) 1 0) 22 40) := (g1.nw (by decide)).nw (by decide)
      exact g2.same rfl rfl
    · unfold v_newreach v_newline
      have k1 : (z_z σ + 2) = z_z σ + 1 + 1 := rfl
      rw [k1]
      simp only [z_t_wi, z_i_wi, z_r_wi, z_n_wi, z_a_wi, z_q_wi, z_z_wi, z_t_wr, z_i_wr, z_r_wr, z_n_wr, z_a_wr, z_q_wr, z_z_wr, z_t_wa, z_i_wa, z_r_wa, z_n_wa, z_a_wa, z_q_wa, z_z_wa, z_t_wq, z_i_wq, z_r_wq, z_n_wq, z_a_wq, z_q_wq, z_z_wq, z_t_nw, z_i_nw, z_r_nw, z_n_nw, z_a_nw, z_q_nw, z_z_nw, z_t_uq, z_i_uq, z_r_uq, z_n_uq, z_a_uq, z_z_uq, z_q_uq, ze_iconst, ze_bipush, ze_sipush, ze_lconst, ze_dconst, ze_aconst_null, ze_ldc, ze_ldc_w, ze_ldc2_w, ze_ldc2_w1, ze_iload, ze_iload_n, ze_lload, ze_lload_n, ze_aload, ze_aload_n, ze_istore, ze_istore_n, ze_lstore, ze_lstore_n, ze_astore, ze_astore_n, ze_iinc, ze_iadd, ze_isub, ze_imul, ze_iand, ze_ior, ze_ixor, ze_ishl, ze_ishr, ze_idiv, ze_irem, ze_ineg, ze_ladd, ze_lsub, ze_lmul, ze_ldiv, ze_lcmp, ze_i2l, ze_l2i, ze_i2d, ze_ddiv, ze_dmul, ze_dsub, ze_dcmp, ze_dup, ze_pop, ze_dup_x1, ze_dup2, ze_goto, ze_ifnull, ze_ifnonnull, ze_getfield, ze_getfield1, ze_putfield, ze_putfield1, ze_iaload, ze_aaload, ze_iastore, ze_aastore, ze_getstatic, ze_arraylength, ze_new, ze_newarray, ze_anewarray, ze_checkcast, ze_invokevirtual, ze_invokespecial, ze_invokestatic, ze_ireturn, ze_lreturn, ze_dreturn, ze_areturn, ze_return_, ze_tableswitch, ze_ifCond_eq, ze_ifCond_ne, ze_ifCond_lt, ze_ifCond_ge, ze_ifCond_gt, ze_ifCond_le, ze_if_icmp_eq, ze_if_icmp_ne, ze_if_icmp_lt, ze_if_icmp_ge, ze_if_icmp_gt, ze_if_icmp_le, ze_acmp_eq, ze_acmp_ne, zs_ldi, zs_ldl, zs_lda, zs_inc, zs_sw0, zs_sw, zs_cb, zs_cb0, zs_inv0, zs_inv1, zs_inv2, zs_inv3, zs_inv4, zs_inv5, zs_inv6, zs_gl, zs_rm0, zs_rm, zs_rm20, zs_rm2, zs_p0, zs_p00, zs_gl0, zs_pk0, zs_pk, zs_fc, zs_ck0, zs_ck, zs_cat0, zs_cat, zs_ci, zs_cl, zs_cd, zs_cr, zs_cn, zs_cf, zs_cu, zs_cu0, zs_wp, zs_wp0, z_rf_ref, z_rf_null, z_rf_rf, z_o_ref, z_o_null, z_o_rf, va_rf_some, va_rf_none, zc_om1, zc_o0, zc_o1, zc_o2, zc_o3, zc_o4, zc_o5, zc_o6, zc_o7, zc_o8, zc_om4, zc_bm2, zc_b6, zc_b7, zc_b8, zc_b9, zc_b10, zc_b11, zc_b12, zc_b14, zc_b15, zc_b16, zc_b17, zc_b18, zc_b20, zc_b21, zc_b22, zc_b24, zc_b30, zc_b40, zc_b41, zc_b60, zc_b63, zc_b64, zc_b66, zc_b76, zc_nI, if_pos, if_neg, reduceIte, Nat.reduceAdd, Nat.reduceMul, Nat.reduceSub, Nat.reduceEqDiff, Nat.reduceLeDiff, Nat.reduceBEq, and_true, true_and, or_true, true_or, or_false, false_or, and_false, false_and, and_self, or_self, implies_true, forall_const, not_true_eq_false, not_false_eq_true, reduceCtorEq, Nat.zero_add, Nat.add_zero, Nat.add_eq_right, Nat.add_right_cancel_iff, Nat.succ_ne_zero, Nat.le_refl, true_implies, false_implies, Option.some.injEq, zc_f0, zc_f1, zc_f2, zc_f3, zs_args, zs_args0, List.length_cons, List.length_nil, e1, e2, e3, e4, f1, f2, f3, f4, f5, f6, f7]
  · exact hp.elim
theorem ctX5_init (l : Launch) : z_Ct l yX5_init cX5_init 2 (none) rX5_init pX5_init 4 84 := z_Ct_of (T := tX5_init) (cl := clX5_init) (rk := 0) (by decide +kernel) true (fun h => by first | rfl | cases h) oX5_init (by first | exact Or.inl ⟨rfl, rfl⟩ | exact Or.inr (Or.inl ⟨rfl, rfl⟩) | exact Or.inr (Or.inr (Or.inl ⟨rfl, rfl⟩)) | exact Or.inr (Or.inr (Or.inr (Or.inl ⟨rfl, rfl⟩))) | exact Or.inr (Or.inr (Or.inr (Or.inr (Or.inl ⟨rfl, rfl⟩)))) | exact Or.inr (Or.inr (Or.inr (Or.inr (Or.inr ⟨rfl, Or.inl ⟨_, rfl⟩⟩)))) | exact Or.inr (Or.inr (Or.inr (Or.inr (Or.inr ⟨rfl, Or.inr ⟨_, rfl⟩⟩))))) rfl rfl (kX5_init l) (by intro as σ K h; unfold pX5_init at h; split at h <;> first | (simp [lg_sl, Value.category]; done) | exact h.elim) gX5_init
