/-! ===== Object.<init>, Math.max, Math.min at a call ===== -/
def p_objinit : zPT := fun as σ K => match as with
  | [.ref _] => K none σ
  | _ => False
def p_mmax : zPT := fun as σ K => match as with
  | [.int x, .int y] => K (some (.int (if x < y then y else x))) σ
  | _ => False
def p_mmin : zPT := fun as σ K => match as with
  | [.int x, .int y] => K (some (.int (if y < x then y else x))) σ
  | _ => False
theorem z_P_objinit {l : Launch} {own : String} {cc : ByteArray} {nL u : Nat} {R : Room} (hlk : Cond.methodLink own u objectInit ∈ z_wd) (h1 : 1 ≤ R.frames) (h2 : 20 ≤ R.locals) : z_CallP l own cc nL R (4 * u + 1, 1, p_objinit, 0, 0) := by
  intro p e s m args below meth c Q D cA B H0 ini X i pc lv st σ cells slots K hkey hdg g1 g2 g3 g4 g5 hgo H ls locs hok hl hS
  obtain ⟨hx, hb, hml, hown, hts, hN, hK, hBH, -, -⟩ := X
  obtain rfl : i = .invokespecial u := by
    rcases hkey with ⟨k, rfl, hk⟩ | ⟨k, rfl, hk⟩ | ⟨k, rfl, hk⟩
    · have := hk; simp only at this; omega
    · have : k = u := by have := hk; simp only at this; omega
      rw [this]
    · have := hk; simp only at this; omega
  dsimp only at g1 g2 g3 g4 g5 hgo
  generalize has : (st.take 1).reverse = as at g5
  unfold p_objinit at g5
  split at g5
  · rename_i a
    have hst : st = .ref a :: st.drop 1 := by
      have := z_take has
      simpa using this
    have hi1 : Cond.instanceMethod objectInit ∈ z_wd := z_in 85 (by decide +kernel) (by decide +kernel)
    have hi2 : Cond.code objectInit ⟨#[0xb1]⟩ 1 none ∈ z_wd := z_in 86 (by decide +kernel) (by decide +kernel)
    have hc9 : ((st.drop 1).map fun v => v.category).sum ≤ 8 := g4
    refine W.objInit hx hb hown (hts _ hlk) (hts _ hi1) (hts _ hi2) rfl (by rw [hml]; exact hl.1) hst hdg h1 (by show 2 * 0 + _ + 12 ≤ _; omega) ?_
    exact hgo none σ g5 H ls locs hok hl hS
  · exact g5.elim
theorem z_P_mmax {l : Launch} {own : String} {cc : ByteArray} {nL u : Nat} {R : Room} (hlk : Cond.methodLink own u Lib.Math.max.name ∈ z_wd) (h1 : 1 ≤ R.frames) (h2 : 21 ≤ R.locals) : z_CallP l own cc nL R (4 * u + 2, 2, p_mmax, 0, 0) := by
  intro p e s m args below meth c Q D cA B H0 ini X i pc lv st σ cells slots K hkey hdg g1 g2 g3 g4 g5 hgo H ls locs hok hl hS
  obtain ⟨hx, hb, hml, hown, hts, hN, hK, hBH, -, -⟩ := X
  obtain rfl : i = .invokestatic u := by
    rcases hkey with ⟨k, rfl, hk⟩ | ⟨k, rfl, hk⟩ | ⟨k, rfl, hk⟩
    · have := hk; simp only at this; omega
    · have := hk; simp only at this; omega
    · have : k = u := by have := hk; simp only at this; omega
      rw [this]
  dsimp only at g1 g2 g3 g4 g5 hgo
  generalize has : (st.take 2).reverse = as at g5
  unfold p_mmax at g5
  split at g5
  · rename_i x y
    have hst : st = .int y :: .int x :: st.drop 2 := by
      have := z_take has
      simpa using this
    have hi1 : Cond.static Lib.Math.max.name ∈ z_wd := z_in 480 (by decide +kernel) (by decide +kernel)
    have hi2 : Cond.code Lib.Math.max.name Lib.Math.max.code 2 (some .int) ∈ z_wd := z_in 481 (by decide +kernel) (by decide +kernel)
    have hi3 : Cond.initialized "java/lang/Math" ∈ z_wd := z_in 72 (by decide +kernel) (by decide +kernel)
    have hc9 : ((st.drop 2).map fun v => v.category).sum ≤ 8 := g4
    rw [hst]
    exact va_mmax hx hb (hml.trans hl.1.symm) hown (hts _ hlk) (hts _ hi1) (hts _ hi3) (hts _ hi2) h1 (by omega) g2 g3 hdg (hgo (some _) σ g5 H ls locs hok hl hS)
  · exact g5.elim
theorem z_P_mmin {l : Launch} {own : String} {cc : ByteArray} {nL u : Nat} {R : Room} (hlk : Cond.methodLink own u Lib.Math.min.name ∈ z_wd) (h1 : 1 ≤ R.frames) (h2 : 21 ≤ R.locals) : z_CallP l own cc nL R (4 * u + 2, 2, p_mmin, 0, 0) := by
  intro p e s m args below meth c Q D cA B H0 ini X i pc lv st σ cells slots K hkey hdg g1 g2 g3 g4 g5 hgo H ls locs hok hl hS
  obtain ⟨hx, hb, hml, hown, hts, hN, hK, hBH, -, -⟩ := X
  obtain rfl : i = .invokestatic u := by
    rcases hkey with ⟨k, rfl, hk⟩ | ⟨k, rfl, hk⟩ | ⟨k, rfl, hk⟩
    · have := hk; simp only at this; omega
    · have := hk; simp only at this; omega
    · have : k = u := by have := hk; simp only at this; omega
      rw [this]
  dsimp only at g1 g2 g3 g4 g5 hgo
  generalize has : (st.take 2).reverse = as at g5
  unfold p_mmin at g5
  split at g5
  · rename_i x y
    have hst : st = .int y :: .int x :: st.drop 2 := by
      have := z_take has
      simpa using this
    have hi1 : Cond.static Lib.Math.min.name ∈ z_wd := z_in 512 (by decide +kernel) (by decide +kernel)
    have hi2 : Cond.code Lib.Math.min.name Lib.Math.min.code 2 (some .int) ∈ z_wd := z_in 513 (by decide +kernel) (by decide +kernel)
    have hi3 : Cond.initialized "java/lang/Math" ∈ z_wd := z_in 72 (by decide +kernel) (by decide +kernel)
    have hc9 : ((st.drop 2).map fun v => v.category).sum ≤ 8 := g4
    rw [hst]
    exact va_mmin hx hb (hml.trans hl.1.symm) hown (hts _ hlk) (hts _ hi1) (hts _ hi3) (hts _ hi2) h1 (by omega) g2 g3 hdg (hgo (some _) σ g5 H ls locs hok hl hS)
  · exact g5.elim
/-! ===== class Log ===== -/
def pX1_init : zPT := fun as σ K => match as with
  | [.ref g, .int k] => z_t σ g = 2 ∧ K none (z_wi (z_wi (z_wi (z_wi (z_wi (z_wi (z_wi σ 1 5 g 0) 1 6 g 0) 1 7 g (-1)) 1 8 g (-1)) 1 9 g (-1)) 1 10 g (-1)) 1 0 g k)
  | _ => False
abbrev rX1_init : Room := { frames := 1, cells := 0, slots := 0, locals := 20 }
def clX1_init : List zC := [(13, 1, p_objinit, 0, 0)]
set_option maxRecDepth 20000 in
theorem kX1_init (l : Launch) : ∀ q ∈ clX1_init, z_CallP l RX1 cX1_init 2 rX1_init q := by
  intro q hq
  simp only [clX1_init, List.mem_cons, List.not_mem_nil, or_false] at hq
  rcases hq with rfl
  · exact z_P_objinit (u := 3) (z_in 400 (by decide +kernel) (by decide +kernel)) (by decide) (by decide)
set_option maxHeartbeats 4000000 in
set_option maxRecDepth 20000 in
theorem gX1_init : ∀ (as : List Value) (σ : bS) (Kp : Option Value → bS → Prop), pX1_init as σ Kp → ∀ K : zK, z_Cl tX1_init clX1_init (fun v σ c n => Kp v σ ∧ c ≤ 0 ∧ n ≤ 0) 0 0 0 K → K 0 (lv_args 0 as) [] σ 0 0 := by
  intro as σ Kp hp K hK
  unfold pX1_init at hp
  split at hp
  · rename_i g k
    obtain ⟨hg, hp⟩ := hp
    refine hK.1 [] 60 _ _ _ _ _ _ ?_
    simp only [ze_iconst, ze_bipush, ze_sipush, ze_lconst, ze_dconst, ze_aconst_null, ze_ldc, ze_ldc_w, ze_ldc2_w, ze_ldc2_w1, ze_iload, ze_iload_n, ze_lload, ze_lload_n, ze_aload, ze_aload_n, ze_istore, ze_istore_n, ze_lstore, ze_lstore_n, ze_astore, ze_astore_n, ze_iinc, ze_iadd, ze_isub, ze_imul, ze_iand, ze_ior, ze_ixor, ze_ishl, ze_ishr, ze_idiv, ze_irem, ze_ineg, ze_ladd, ze_lsub, ze_lmul, ze_ldiv, ze_lcmp, ze_i2l, ze_l2i, ze_i2d, ze_ddiv, ze_dmul, ze_dsub, ze_dcmp, ze_dup, ze_pop, ze_dup_x1, ze_dup2, ze_goto, ze_ifnull, ze_ifnonnull, ze_getfield, ze_getfield1, ze_putfield, ze_putfield1, ze_iaload, ze_aaload, ze_iastore, ze_aastore, ze_getstatic, ze_arraylength, ze_new, ze_newarray, ze_anewarray, ze_checkcast, ze_invokevirtual, ze_invokespecial, ze_invokestatic, ze_ireturn, ze_lreturn, ze_dreturn, ze_areturn, ze_return_, ze_tableswitch, ze_ifCond_eq, ze_ifCond_ne, ze_ifCond_lt, ze_ifCond_ge, ze_ifCond_gt, ze_ifCond_le, ze_if_icmp_eq, ze_if_icmp_ne, ze_if_icmp_lt, ze_if_icmp_ge, ze_if_icmp_gt, ze_if_icmp_le, ze_acmp_eq, ze_acmp_ne, zs_ldi, zs_ldl, zs_lda, zs_inc, zs_sw0, zs_sw, zs_cb, zs_cb0, zs_inv0, zs_inv1, zs_inv2, zs_inv3, zs_inv4, zs_inv5, zs_inv6, zs_gl, zs_rm0, zs_rm, zs_rm20, zs_rm2, zs_p0, zs_p00, zs_gl0, zs_pk0, zs_pk, zs_fc, zs_ck0, zs_ck, zs_cat0, zs_cat, zs_ci, zs_cl, zs_cd, zs_cr, zs_cn, zs_cf, zs_cu, zs_cu0, zs_wp, zs_wp0, z_rf_ref, z_rf_null, z_rf_rf, z_o_ref, z_o_null, z_o_rf, va_rf_some, va_rf_none, zc_om1, zc_o0, zc_o1, zc_o2, zc_o3, zc_o4, zc_o5, zc_o6, zc_o7, zc_o8, zc_om4, zc_bm2, zc_b6, zc_b7, zc_b8, zc_b9, zc_b10, zc_b11, zc_b12, zc_b14, zc_b15, zc_b16, zc_b17, zc_b18, zc_b20, zc_b21, zc_b22, zc_b24, zc_b30, zc_b40, zc_b41, zc_b60, zc_b63, zc_b64, zc_b66, zc_b76, zc_nI, if_pos, if_neg, reduceIte, Nat.reduceAdd, Nat.reduceMul, Nat.reduceSub, Nat.reduceEqDiff, Nat.reduceLeDiff, Nat.reduceBEq, and_true, true_and, or_true, true_or, or_false, false_or, and_false, false_and, and_self, or_self, implies_true, forall_const, not_true_eq_false, not_false_eq_true, reduceCtorEq, Nat.zero_add, Nat.add_zero, Nat.add_eq_right, Nat.add_right_cancel_iff, Nat.succ_ne_zero, Nat.le_refl, true_implies, false_implies, Option.some.injEq, zc_f0, zc_f1, zc_f2, zc_f3, zs_args, zs_args0, List.length_cons, List.length_nil, z_t_wi, z_i_wi, z_r_wi, z_n_wi, z_a_wi, z_q_wi, z_z_wi, z_t_wr, z_i_wr, z_r_wr, z_n_wr, z_a_wr, z_q_wr, z_z_wr, z_t_wa, z_i_wa, z_r_wa, z_n_wa, z_a_wa, z_q_wa, z_z_wa, z_t_wq, z_i_wq, z_r_wq, z_n_wq, z_a_wq, z_q_wq, z_z_wq, z_t_nw, z_i_nw, z_r_nw, z_n_nw, z_a_nw, z_q_nw, z_z_nw, z_t_uq, z_i_uq, z_r_uq, z_n_uq, z_a_uq, z_z_uq, z_q_uq, hX1_init_0, hX1_init_1, hX1_init_4, hX1_init_5, hX1_init_6, hX1_init_9, hX1_init_10, hX1_init_11, hX1_init_14, hX1_init_15, hX1_init_16, hX1_init_19, hX1_init_20, hX1_init_21, hX1_init_24, hX1_init_25, hX1_init_26, hX1_init_29, hX1_init_30, hX1_init_31, hX1_init_34, hX1_init_35, hX1_init_36, hX1_init_39, clX1_init, ↓p_objinit, hg]
    exact hp
  · exact hp.elim
theorem ctX1_init (l : Launch) : z_Ct l yX1_init cX1_init 2 (none) rX1_init pX1_init 0 0 := z_Ct_of (T := tX1_init) (cl := clX1_init) (rk := 0) (by decide +kernel) true (fun h => by first | rfl | cases h) oX1_init (by first | exact Or.inl ⟨rfl, rfl⟩ | exact Or.inr (Or.inl ⟨rfl, rfl⟩) | exact Or.inr (Or.inr (Or.inl ⟨rfl, rfl⟩)) | exact Or.inr (Or.inr (Or.inr (Or.inl ⟨rfl, rfl⟩))) | exact Or.inr (Or.inr (Or.inr (Or.inr (Or.inl ⟨rfl, rfl⟩)))) | exact Or.inr (Or.inr (Or.inr (Or.inr (Or.inr ⟨rfl, Or.inl ⟨_, rfl⟩⟩)))) | exact Or.inr (Or.inr (Or.inr (Or.inr (Or.inr ⟨rfl, Or.inr ⟨_, rfl⟩⟩))))) rfl rfl (kX1_init l) (by intro as σ K h; unfold pX1_init at h; split at h <;> first | (simp [lg_sl, Value.category]; done) | exact h.elim) gX1_init
def m_sc (len girth soaked rule : Int32) : Int32 := if rule = 0 then len * girth else if rule = 1 then len * girth * girth / 8 else if soaked < 10 then len * (if girth - 2 < 0 then 0 else girth - 2) else len * (if girth - 2 < 0 then 0 else girth - 2) / 2
def pX1_scaleBy : zPT := fun as σ K => match as with
  | [.ref g, .int k] => z_t σ g = 2 ∧ K (some (.int (m_sc (z_i σ 1 2 g) (z_i σ 1 3 g) (z_i σ 1 5 g) k))) σ
  | _ => False
abbrev rX1_scaleBy : Room := { frames := 1, cells := 0, slots := 0, locals := 21 }
def clX1_scaleBy : List zC := [(158, 2, p_mmax, 0, 0)]
set_option maxRecDepth 20000 in
theorem kX1_scaleBy (l : Launch) : ∀ q ∈ clX1_scaleBy, z_CallP l RX1 cX1_scaleBy 3 rX1_scaleBy q := by
  intro q hq
  simp only [clX1_scaleBy, List.mem_cons, List.not_mem_nil, or_false] at hq
  rcases hq with rfl
  · exact z_P_mmax (u := 39) (z_in 670 (by decide +kernel) (by decide +kernel)) (by decide) (by decide)
set_option maxHeartbeats 4000000 in
set_option maxRecDepth 20000 in
theorem gX1_scaleBy : ∀ (as : List Value) (σ : bS) (Kp : Option Value → bS → Prop), pX1_scaleBy as σ Kp → ∀ K : zK, z_Cl tX1_scaleBy clX1_scaleBy (fun v σ c n => Kp v σ ∧ c ≤ 0 ∧ n ≤ 0) 0 0 1 K → K 0 (lv_args 0 as) [] σ 0 0 := by
  intro as σ Kp hp K hK
  unfold pX1_scaleBy at hp
  split at hp
  · rename_i g k
    obtain ⟨hg, hp⟩ := hp
    refine hK.1 [] 60 _ _ _ _ _ _ ?_
    simp only [ze_iconst, ze_bipush, ze_sipush, ze_lconst, ze_dconst, ze_aconst_null, ze_ldc, ze_ldc_w, ze_ldc2_w, ze_ldc2_w1, ze_iload, ze_iload_n, ze_lload, ze_lload_n, ze_aload, ze_aload_n, ze_istore, ze_istore_n, ze_lstore, ze_lstore_n, ze_astore, ze_astore_n, ze_iinc, ze_iadd, ze_isub, ze_imul, ze_iand, ze_ior, ze_ixor, ze_ishl, ze_ishr, ze_idiv, ze_irem, ze_ineg, ze_ladd, ze_lsub, ze_lmul, ze_ldiv, ze_lcmp, ze_i2l, ze_l2i, ze_i2d, ze_ddiv, ze_dmul, ze_dsub, ze_dcmp, ze_dup, ze_pop, ze_dup_x1, ze_dup2, ze_goto, ze_ifnull, ze_ifnonnull, ze_getfield, ze_getfield1, ze_putfield, ze_putfield1, ze_iaload, ze_aaload, ze_iastore, ze_aastore, ze_getstatic, ze_arraylength, ze_new, ze_newarray, ze_anewarray, ze_checkcast, ze_invokevirtual, ze_invokespecial, ze_invokestatic, ze_ireturn, ze_lreturn, ze_dreturn, ze_areturn, ze_return_, ze_tableswitch, ze_ifCond_eq, ze_ifCond_ne, ze_ifCond_lt, ze_ifCond_ge, ze_ifCond_gt, ze_ifCond_le, ze_if_icmp_eq, ze_if_icmp_ne, ze_if_icmp_lt, ze_if_icmp_ge, ze_if_icmp_gt, ze_if_icmp_le, ze_acmp_eq, ze_acmp_ne, zs_ldi, zs_ldl, zs_lda, zs_inc, zs_sw0, zs_sw, zs_cb, zs_cb0, zs_inv0, zs_inv1, zs_inv2, zs_inv3, zs_inv4, zs_inv5, zs_inv6, zs_gl, zs_rm0, zs_rm, zs_rm20, zs_rm2, zs_p0, zs_p00, zs_gl0, zs_pk0, zs_pk, zs_fc, zs_ck0, zs_ck, zs_cat0, zs_cat, zs_ci, zs_cl, zs_cd, zs_cr, zs_cn, zs_cf, zs_cu, zs_cu0, zs_wp, zs_wp0, z_rf_ref, z_rf_null, z_rf_rf, z_o_ref, z_o_null, z_o_rf, va_rf_some, va_rf_none, zc_om1, zc_o0, zc_o1, zc_o2, zc_o3, zc_o4, zc_o5, zc_o6, zc_o7, zc_o8, zc_om4, zc_bm2, zc_b6, zc_b7, zc_b8, zc_b9, zc_b10, zc_b11, zc_b12, zc_b14, zc_b15, zc_b16, zc_b17, zc_b18, zc_b20, zc_b21, zc_b22, zc_b24, zc_b30, zc_b40, zc_b41, zc_b60, zc_b63, zc_b64, zc_b66, zc_b76, zc_nI, if_pos, if_neg, reduceIte, Nat.reduceAdd, Nat.reduceMul, Nat.reduceSub, Nat.reduceEqDiff, Nat.reduceLeDiff, Nat.reduceBEq, and_true, true_and, or_true, true_or, or_false, false_or, and_false, false_and, and_self, or_self, implies_true, forall_const, not_true_eq_false, not_false_eq_true, reduceCtorEq, Nat.zero_add, Nat.add_zero, Nat.add_eq_right, Nat.add_right_cancel_iff, Nat.succ_ne_zero, Nat.le_refl, true_implies, false_implies, Option.some.injEq, zc_f0, zc_f1, zc_f2, zc_f3, zs_args, zs_args0, List.length_cons, List.length_nil, z_t_wi, z_i_wi, z_r_wi, z_n_wi, z_a_wi, z_q_wi, z_z_wi, z_t_wr, z_i_wr, z_r_wr, z_n_wr, z_a_wr, z_q_wr, z_z_wr, z_t_wa, z_i_wa, z_r_wa, z_n_wa, z_a_wa, z_q_wa, z_z_wa, z_t_wq, z_i_wq, z_r_wq, z_n_wq, z_a_wq, z_q_wq, z_z_wq, z_t_nw, z_i_nw, z_r_nw, z_n_nw, z_a_nw, z_q_nw, z_z_nw, z_t_uq, z_i_uq, z_r_uq, z_n_uq, z_a_uq, z_z_uq, z_q_uq, hX1_scaleBy_0, hX1_scaleBy_1, hX1_scaleBy_4, hX1_scaleBy_5, hX1_scaleBy_8, hX1_scaleBy_9, hX1_scaleBy_12, hX1_scaleBy_13, hX1_scaleBy_14, hX1_scaleBy_15, hX1_scaleBy_16, hX1_scaleBy_19, hX1_scaleBy_20, hX1_scaleBy_23, hX1_scaleBy_24, hX1_scaleBy_27, hX1_scaleBy_28, hX1_scaleBy_29, hX1_scaleBy_32, hX1_scaleBy_33, hX1_scaleBy_35, hX1_scaleBy_36, hX1_scaleBy_37, hX1_scaleBy_38, hX1_scaleBy_41, hX1_scaleBy_42, hX1_scaleBy_45, hX1_scaleBy_46, hX1_scaleBy_47, hX1_scaleBy_48, hX1_scaleBy_51, hX1_scaleBy_52, hX1_scaleBy_53, hX1_scaleBy_54, hX1_scaleBy_57, hX1_scaleBy_59, hX1_scaleBy_62, hX1_scaleBy_63, hX1_scaleBy_64, hX1_scaleBy_65, hX1_scaleBy_68, hX1_scaleBy_69, clX1_scaleBy, ↓p_mmax, hg]
    unfold m_sc at hp
    generalize z_i σ 1 5 g = w at hp ⊢
    by_cases h1 : k = 0
    · rw [if_pos h1] at hp
      ((repeat' (first | apply And.intro | intro _)) <;> first | exact hp | contradiction | decide)
    · by_cases h2 : k = 1
      · rw [if_neg h1, if_pos h2] at hp
        ((repeat' (first | apply And.intro | intro _)) <;> first | exact hp | contradiction | decide)
      · by_cases h3 : w < 10
        · rw [if_neg h1, if_neg h2, if_pos h3] at hp
          ((repeat' (first | apply And.intro | intro _)) <;> first | exact hp | contradiction | decide)
        · rw [if_neg h1, if_neg h2, if_neg h3] at hp
          ((repeat' (first | apply And.intro | intro _)) <;> first | exact hp | contradiction | decide)
  · exact hp.elim
theorem ctX1_scaleBy (l : Launch) : z_Ct l yX1_scaleBy cX1_scaleBy 3 (some .int) rX1_scaleBy pX1_scaleBy 0 0 := z_Ct_of (T := tX1_scaleBy) (cl := clX1_scaleBy) (rk := 1) (by decide +kernel) false (fun h => by first | rfl | cases h) oX1_scaleBy (by first | exact Or.inl ⟨rfl, rfl⟩ | exact Or.inr (Or.inl ⟨rfl, rfl⟩) | exact Or.inr (Or.inr (Or.inl ⟨rfl, rfl⟩)) | exact Or.inr (Or.inr (Or.inr (Or.inl ⟨rfl, rfl⟩))) | exact Or.inr (Or.inr (Or.inr (Or.inr (Or.inl ⟨rfl, rfl⟩)))) | exact Or.inr (Or.inr (Or.inr (Or.inr (Or.inr ⟨rfl, Or.inl ⟨_, rfl⟩⟩)))) | exact Or.inr (Or.inr (Or.inr (Or.inr (Or.inr ⟨rfl, Or.inr ⟨_, rfl⟩⟩))))) rfl rfl (kX1_scaleBy l) (by intro as σ K h; unfold pX1_scaleBy at h; split at h <;> first | (simp [lg_sl, Value.category]; done) | exact h.elim) gX1_scaleBy
def pX1_loseSmallestStroke : zPT := fun as σ K => match as with
  | [.ref g] => z_t σ g = 2 ∧ K none (z_wi σ 1 4 g (z_i σ 1 4 g &&& (z_i σ 1 4 g - 1)))
  | _ => False
abbrev rX1_loseSmallestStroke : Room := { frames := 0, cells := 0, slots := 0, locals := 0 }
def clX1_loseSmallestStroke : List zC := []
set_option maxRecDepth 20000 in
theorem kX1_loseSmallestStroke (l : Launch) : ∀ q ∈ clX1_loseSmallestStroke, z_CallP l RX1 cX1_loseSmallestStroke 1 rX1_loseSmallestStroke q := by
  intro q hq
  cases hq
set_option maxHeartbeats 4000000 in
set_option maxRecDepth 20000 in
theorem gX1_loseSmallestStroke : ∀ (as : List Value) (σ : bS) (Kp : Option Value → bS → Prop), pX1_loseSmallestStroke as σ Kp → ∀ K : zK, z_Cl tX1_loseSmallestStroke clX1_loseSmallestStroke (fun v σ c n => Kp v σ ∧ c ≤ 0 ∧ n ≤ 0) 0 0 0 K → K 0 (lv_args 0 as) [] σ 0 0 := by
  intro as σ Kp hp K hK
  unfold pX1_loseSmallestStroke at hp
  split at hp
  · rename_i g
    obtain ⟨hg, hp⟩ := hp
    refine hK.1 [] 60 _ _ _ _ _ _ ?_
    simp only [ze_iconst, ze_bipush, ze_sipush, ze_lconst, ze_dconst, ze_aconst_null, ze_ldc, ze_ldc_w, ze_ldc2_w, ze_ldc2_w1, ze_iload, ze_iload_n, ze_lload, ze_lload_n, ze_aload, ze_aload_n, ze_istore, ze_istore_n, ze_lstore, ze_lstore_n, ze_astore, ze_astore_n, ze_iinc, ze_iadd, ze_isub, ze_imul, ze_iand, ze_ior, ze_ixor, ze_ishl, ze_ishr, ze_idiv, ze_irem, ze_ineg, ze_ladd, ze_lsub, ze_lmul, ze_ldiv, ze_lcmp, ze_i2l, ze_l2i, ze_i2d, ze_ddiv, ze_dmul, ze_dsub, ze_dcmp, ze_dup, ze_pop, ze_dup_x1, ze_dup2, ze_goto, ze_ifnull, ze_ifnonnull, ze_getfield, ze_getfield1, ze_putfield, ze_putfield1, ze_iaload, ze_aaload, ze_iastore, ze_aastore, ze_getstatic, ze_arraylength, ze_new, ze_newarray, ze_anewarray, ze_checkcast, ze_invokevirtual, ze_invokespecial, ze_invokestatic, ze_ireturn, ze_lreturn, ze_dreturn, ze_areturn, ze_return_, ze_tableswitch, ze_ifCond_eq, ze_ifCond_ne, ze_ifCond_lt, ze_ifCond_ge, ze_ifCond_gt, ze_ifCond_le, ze_if_icmp_eq, ze_if_icmp_ne, ze_if_icmp_lt, ze_if_icmp_ge, ze_if_icmp_gt, ze_if_icmp_le, ze_acmp_eq, ze_acmp_ne, zs_ldi, zs_ldl, zs_lda, zs_inc, zs_sw0, zs_sw, zs_cb, zs_cb0, zs_inv0, zs_inv1, zs_inv2, zs_inv3, zs_inv4, zs_inv5, zs_inv6, zs_gl, zs_rm0, zs_rm, zs_rm20, zs_rm2, zs_p0, zs_p00, zs_gl0, zs_pk0, zs_pk, zs_fc, zs_ck0, zs_ck, zs_cat0, zs_cat, zs_ci, zs_cl, zs_cd, zs_cr, zs_cn, zs_cf, zs_cu, zs_cu0, zs_wp, zs_wp0, z_rf_ref, z_rf_null, z_rf_rf, z_o_ref, z_o_null, z_o_rf, va_rf_some, va_rf_none, zc_om1, zc_o0, zc_o1, zc_o2, zc_o3, zc_o4, zc_o5, zc_o6, zc_o7, zc_o8, zc_om4, zc_bm2, zc_b6, zc_b7, zc_b8, zc_b9, zc_b10, zc_b11, zc_b12, zc_b14, zc_b15, zc_b16, zc_b17, zc_b18, zc_b20, zc_b21, zc_b22, zc_b24, zc_b30, zc_b40, zc_b41, zc_b60, zc_b63, zc_b64, zc_b66, zc_b76, zc_nI, if_pos, if_neg, reduceIte, Nat.reduceAdd, Nat.reduceMul, Nat.reduceSub, Nat.reduceEqDiff, Nat.reduceLeDiff, Nat.reduceBEq, and_true, true_and, or_true, true_or, or_false, false_or, and_false, false_and, and_self, or_self, implies_true, forall_const, not_true_eq_false, not_false_eq_true, reduceCtorEq, Nat.zero_add, Nat.add_zero, Nat.add_eq_right, Nat.add_right_cancel_iff, Nat.succ_ne_zero, Nat.le_refl, true_implies, false_implies, Option.some.injEq, zc_f0, zc_f1, zc_f2, zc_f3, zs_args, zs_args0, List.length_cons, List.length_nil, z_t_wi, z_i_wi, z_r_wi, z_n_wi, z_a_wi, z_q_wi, z_z_wi, z_t_wr, z_i_wr, z_r_wr, z_n_wr, z_a_wr, z_q_wr, z_z_wr, z_t_wa, z_i_wa, z_r_wa, z_n_wa, z_a_wa, z_q_wa, z_z_wa, z_t_wq, z_i_wq, z_r_wq, z_n_wq, z_a_wq, z_q_wq, z_z_wq, z_t_nw, z_i_nw, z_r_nw, z_n_nw, z_a_nw, z_q_nw, z_z_nw, z_t_uq, z_i_uq, z_r_uq, z_n_uq, z_a_uq, z_z_uq, z_q_uq, hX1_loseSmallestStroke_0, hX1_loseSmallestStroke_1, hX1_loseSmallestStroke_2, hX1_loseSmallestStroke_5, hX1_loseSmallestStroke_6, hX1_loseSmallestStroke_9, hX1_loseSmallestStroke_10, hX1_loseSmallestStroke_11, hX1_loseSmallestStroke_12, hX1_loseSmallestStroke_15, clX1_loseSmallestStroke, hg]
    exact hp
  · exact hp.elim
theorem ctX1_loseSmallestStroke (l : Launch) : z_Ct l yX1_loseSmallestStroke cX1_loseSmallestStroke 1 (none) rX1_loseSmallestStroke pX1_loseSmallestStroke 0 0 := z_Ct_of (T := tX1_loseSmallestStroke) (cl := clX1_loseSmallestStroke) (rk := 0) (by decide +kernel) false (fun h => by first | rfl | cases h) oX1_loseSmallestStroke (by first | exact Or.inl ⟨rfl, rfl⟩ | exact Or.inr (Or.inl ⟨rfl, rfl⟩) | exact Or.inr (Or.inr (Or.inl ⟨rfl, rfl⟩)) | exact Or.inr (Or.inr (Or.inr (Or.inl ⟨rfl, rfl⟩))) | exact Or.inr (Or.inr (Or.inr (Or.inr (Or.inl ⟨rfl, rfl⟩)))) | exact Or.inr (Or.inr (Or.inr (Or.inr (Or.inr ⟨rfl, Or.inl ⟨_, rfl⟩⟩)))) | exact Or.inr (Or.inr (Or.inr (Or.inr (Or.inr ⟨rfl, Or.inr ⟨_, rfl⟩⟩))))) rfl rfl (kX1_loseSmallestStroke l) (by intro as σ K h; unfold pX1_loseSmallestStroke at h; split at h <;> first | (simp [lg_sl, Value.category]; done) | exact h.elim) gX1_loseSmallestStroke
def pX1_isInWater : zPT := fun as σ K => match as with
  | [.ref g] => z_t σ g = 2 ∧ K (some (.int (if z_i σ 1 6 g = 1 ∨ z_i σ 1 6 g = 2 ∨ z_i σ 1 6 g = 5 ∨ z_i σ 1 6 g = 6 ∨ z_i σ 1 6 g = 7 then 1 else 0))) σ
  | _ => False
abbrev rX1_isInWater : Room := { frames := 0, cells := 0, slots := 0, locals := 0 }
def clX1_isInWater : List zC := []
set_option maxRecDepth 20000 in
theorem kX1_isInWater (l : Launch) : ∀ q ∈ clX1_isInWater, z_CallP l RX1 cX1_isInWater 1 rX1_isInWater q := by
  intro q hq
  cases hq
set_option maxHeartbeats 4000000 in
set_option maxRecDepth 20000 in
theorem gX1_isInWater : ∀ (as : List Value) (σ : bS) (Kp : Option Value → bS → Prop), pX1_isInWater as σ Kp → ∀ K : zK, z_Cl tX1_isInWater clX1_isInWater (fun v σ c n => Kp v σ ∧ c ≤ 0 ∧ n ≤ 0) 0 0 2 K → K 0 (lv_args 0 as) [] σ 0 0 := by
  intro as σ Kp hp K hK
  unfold pX1_isInWater at hp
  split at hp
  · rename_i g
    obtain ⟨hg, hp⟩ := hp
    refine hK.1 [] 60 _ _ _ _ _ _ ?_
    simp only [ze_iconst, ze_bipush, ze_sipush, ze_lconst, ze_dconst, ze_aconst_null, ze_ldc, ze_ldc_w, ze_ldc2_w, ze_ldc2_w1, ze_iload, ze_iload_n, ze_lload, ze_lload_n, ze_aload, ze_aload_n, ze_istore, ze_istore_n, ze_lstore, ze_lstore_n, ze_astore, ze_astore_n, ze_iinc, ze_iadd, ze_isub, ze_imul, ze_iand, ze_ior, ze_ixor, ze_ishl, ze_ishr, ze_idiv, ze_irem, ze_ineg, ze_ladd, ze_lsub, ze_lmul, ze_ldiv, ze_lcmp, ze_i2l, ze_l2i, ze_i2d, ze_ddiv, ze_dmul, ze_dsub, ze_dcmp, ze_dup, ze_pop, ze_dup_x1, ze_dup2, ze_goto, ze_ifnull, ze_ifnonnull, ze_getfield, ze_getfield1, ze_putfield, ze_putfield1, ze_iaload, ze_aaload, ze_iastore, ze_aastore, ze_getstatic, ze_arraylength, ze_new, ze_newarray, ze_anewarray, ze_checkcast, ze_invokevirtual, ze_invokespecial, ze_invokestatic, ze_ireturn, ze_lreturn, ze_dreturn, ze_areturn, ze_return_, ze_tableswitch, ze_ifCond_eq, ze_ifCond_ne, ze_ifCond_lt, ze_ifCond_ge, ze_ifCond_gt, ze_ifCond_le, ze_if_icmp_eq, ze_if_icmp_ne, ze_if_icmp_lt, ze_if_icmp_ge, ze_if_icmp_gt, ze_if_icmp_le, ze_acmp_eq, ze_acmp_ne, zs_ldi, zs_ldl, zs_lda, zs_inc, zs_sw0, zs_sw, zs_cb, zs_cb0, zs_inv0, zs_inv1, zs_inv2, zs_inv3, zs_inv4, zs_inv5, zs_inv6, zs_gl, zs_rm0, zs_rm, zs_rm20, zs_rm2, zs_p0, zs_p00, zs_gl0, zs_pk0, zs_pk, zs_fc, zs_ck0, zs_ck, zs_cat0, zs_cat, zs_ci, zs_cl, zs_cd, zs_cr, zs_cn, zs_cf, zs_cu, zs_cu0, zs_wp, zs_wp0, z_rf_ref, z_rf_null, z_rf_rf, z_o_ref, z_o_null, z_o_rf, va_rf_some, va_rf_none, zc_om1, zc_o0, zc_o1, zc_o2, zc_o3, zc_o4, zc_o5, zc_o6, zc_o7, zc_o8, zc_om4, zc_bm2, zc_b6, zc_b7, zc_b8, zc_b9, zc_b10, zc_b11, zc_b12, zc_b14, zc_b15, zc_b16, zc_b17, zc_b18, zc_b20, zc_b21, zc_b22, zc_b24, zc_b30, zc_b40, zc_b41, zc_b60, zc_b63, zc_b64, zc_b66, zc_b76, zc_nI, if_pos, if_neg, reduceIte, Nat.reduceAdd, Nat.reduceMul, Nat.reduceSub, Nat.reduceEqDiff, Nat.reduceLeDiff, Nat.reduceBEq, and_true, true_and, or_true, true_or, or_false, false_or, and_false, false_and, and_self, or_self, implies_true, forall_const, not_true_eq_false, not_false_eq_true, reduceCtorEq, Nat.zero_add, Nat.add_zero, Nat.add_eq_right, Nat.add_right_cancel_iff, Nat.succ_ne_zero, Nat.le_refl, true_implies, false_implies, Option.some.injEq, zc_f0, zc_f1, zc_f2, zc_f3, zs_args, zs_args0, List.length_cons, List.length_nil, z_t_wi, z_i_wi, z_r_wi, z_n_wi, z_a_wi, z_q_wi, z_z_wi, z_t_wr, z_i_wr, z_r_wr, z_n_wr, z_a_wr, z_q_wr, z_z_wr, z_t_wa, z_i_wa, z_r_wa, z_n_wa, z_a_wa, z_q_wa, z_z_wa, z_t_wq, z_i_wq, z_r_wq, z_n_wq, z_a_wq, z_q_wq, z_z_wq, z_t_nw, z_i_nw, z_r_nw, z_n_nw, z_a_nw, z_q_nw, z_z_nw, z_t_uq, z_i_uq, z_r_uq, z_n_uq, z_a_uq, z_z_uq, z_q_uq, hX1_isInWater_0, hX1_isInWater_1, hX1_isInWater_4, hX1_isInWater_5, hX1_isInWater_8, hX1_isInWater_9, hX1_isInWater_12, hX1_isInWater_13, hX1_isInWater_16, hX1_isInWater_17, hX1_isInWater_20, hX1_isInWater_21, hX1_isInWater_24, hX1_isInWater_25, hX1_isInWater_28, hX1_isInWater_30, hX1_isInWater_33, hX1_isInWater_34, hX1_isInWater_37, hX1_isInWater_39, hX1_isInWater_42, hX1_isInWater_43, hX1_isInWater_46, hX1_isInWater_47, clX1_isInWater, hg]
    generalize z_i σ 1 6 g = w at hp ⊢
    by_cases h1 : w = 1 <;> by_cases h2 : w = 2 <;> by_cases h3 : w = 5 <;> by_cases h4 : w = 6 <;> by_cases h5 : w = 7 <;> simp_all
  · exact hp.elim
theorem ctX1_isInWater (l : Launch) : z_Ct l yX1_isInWater cX1_isInWater 1 (some .boolean) rX1_isInWater pX1_isInWater 0 0 := z_Ct_of (T := tX1_isInWater) (cl := clX1_isInWater) (rk := 2) (by decide +kernel) false (fun h => by first | rfl | cases h) oX1_isInWater (by first | exact Or.inl ⟨rfl, rfl⟩ | exact Or.inr (Or.inl ⟨rfl, rfl⟩) | exact Or.inr (Or.inr (Or.inl ⟨rfl, rfl⟩)) | exact Or.inr (Or.inr (Or.inr (Or.inl ⟨rfl, rfl⟩))) | exact Or.inr (Or.inr (Or.inr (Or.inr (Or.inl ⟨rfl, rfl⟩)))) | exact Or.inr (Or.inr (Or.inr (Or.inr (Or.inr ⟨rfl, Or.inl ⟨_, rfl⟩⟩)))) | exact Or.inr (Or.inr (Or.inr (Or.inr (Or.inr ⟨rfl, Or.inr ⟨_, rfl⟩⟩))))) rfl rfl (kX1_isInWater l) (by intro as σ K h; unfold pX1_isInWater at h; split at h <;> first | (simp [lg_sl, Value.category]; done) | exact h.elim) gX1_isInWater
def pX1_soakedWhenItSinks : zPT := fun as σ K => match as with
  | [.ref g] => z_t σ g = 2 ∧ K (some (.int (if z_i σ 1 1 g = 0 then 24 else if z_i σ 1 1 g = 1 then 18 else 14))) σ
  | _ => False
abbrev rX1_soakedWhenItSinks : Room := { frames := 0, cells := 0, slots := 0, locals := 0 }
def clX1_soakedWhenItSinks : List zC := []
set_option maxRecDepth 20000 in
theorem kX1_soakedWhenItSinks (l : Launch) : ∀ q ∈ clX1_soakedWhenItSinks, z_CallP l RX1 cX1_soakedWhenItSinks 1 rX1_soakedWhenItSinks q := by
  intro q hq
  cases hq
set_option maxHeartbeats 4000000 in
set_option maxRecDepth 20000 in
theorem gX1_soakedWhenItSinks : ∀ (as : List Value) (σ : bS) (Kp : Option Value → bS → Prop), pX1_soakedWhenItSinks as σ Kp → ∀ K : zK, z_Cl tX1_soakedWhenItSinks clX1_soakedWhenItSinks (fun v σ c n => Kp v σ ∧ c ≤ 0 ∧ n ≤ 0) 0 0 1 K → K 0 (lv_args 0 as) [] σ 0 0 := by
  intro as σ Kp hp K hK
  unfold pX1_soakedWhenItSinks at hp
  split at hp
  · rename_i g
    obtain ⟨hg, hp⟩ := hp
    refine hK.1 [] 60 _ _ _ _ _ _ ?_
    simp only [ze_iconst, ze_bipush, ze_sipush, ze_lconst, ze_dconst, ze_aconst_null, ze_ldc, ze_ldc_w, ze_ldc2_w, ze_ldc2_w1, ze_iload, ze_iload_n, ze_lload, ze_lload_n, ze_aload, ze_aload_n, ze_istore, ze_istore_n, ze_lstore, ze_lstore_n, ze_astore, ze_astore_n, ze_iinc, ze_iadd, ze_isub, ze_imul, ze_iand, ze_ior, ze_ixor, ze_ishl, ze_ishr, ze_idiv, ze_irem, ze_ineg, ze_ladd, ze_lsub, ze_lmul, ze_ldiv, ze_lcmp, ze_i2l, ze_l2i, ze_i2d, ze_ddiv, ze_dmul, ze_dsub, ze_dcmp, ze_dup, ze_pop, ze_dup_x1, ze_dup2, ze_goto, ze_ifnull, ze_ifnonnull, ze_getfield, ze_getfield1, ze_putfield, ze_putfield1, ze_iaload, ze_aaload, ze_iastore, ze_aastore, ze_getstatic, ze_arraylength, ze_new, ze_newarray, ze_anewarray, ze_checkcast, ze_invokevirtual, ze_invokespecial, ze_invokestatic, ze_ireturn, ze_lreturn, ze_dreturn, ze_areturn, ze_return_, ze_tableswitch, ze_ifCond_eq, ze_ifCond_ne, ze_ifCond_lt, ze_ifCond_ge, ze_ifCond_gt, ze_ifCond_le, ze_if_icmp_eq, ze_if_icmp_ne, ze_if_icmp_lt, ze_if_icmp_ge, ze_if_icmp_gt, ze_if_icmp_le, ze_acmp_eq, ze_acmp_ne, zs_ldi, zs_ldl, zs_lda, zs_inc, zs_sw0, zs_sw, zs_cb, zs_cb0, zs_inv0, zs_inv1, zs_inv2, zs_inv3, zs_inv4, zs_inv5, zs_inv6, zs_gl, zs_rm0, zs_rm, zs_rm20, zs_rm2, zs_p0, zs_p00, zs_gl0, zs_pk0, zs_pk, zs_fc, zs_ck0, zs_ck, zs_cat0, zs_cat, zs_ci, zs_cl, zs_cd, zs_cr, zs_cn, zs_cf, zs_cu, zs_cu0, zs_wp, zs_wp0, z_rf_ref, z_rf_null, z_rf_rf, z_o_ref, z_o_null, z_o_rf, va_rf_some, va_rf_none, zc_om1, zc_o0, zc_o1, zc_o2, zc_o3, zc_o4, zc_o5, zc_o6, zc_o7, zc_o8, zc_om4, zc_bm2, zc_b6, zc_b7, zc_b8, zc_b9, zc_b10, zc_b11, zc_b12, zc_b14, zc_b15, zc_b16, zc_b17, zc_b18, zc_b20, zc_b21, zc_b22, zc_b24, zc_b30, zc_b40, zc_b41, zc_b60, zc_b63, zc_b64, zc_b66, zc_b76, zc_nI, if_pos, if_neg, reduceIte, Nat.reduceAdd, Nat.reduceMul, Nat.reduceSub, Nat.reduceEqDiff, Nat.reduceLeDiff, Nat.reduceBEq, and_true, true_and, or_true, true_or, or_false, false_or, and_false, false_and, and_self, or_self, implies_true, forall_const, not_true_eq_false, not_false_eq_true, reduceCtorEq, Nat.zero_add, Nat.add_zero, Nat.add_eq_right, Nat.add_right_cancel_iff, Nat.succ_ne_zero, Nat.le_refl, true_implies, false_implies, Option.some.injEq, zc_f0, zc_f1, zc_f2, zc_f3, zs_args, zs_args0, List.length_cons, List.length_nil, z_t_wi, z_i_wi, z_r_wi, z_n_wi, z_a_wi, z_q_wi, z_z_wi, z_t_wr, z_i_wr, z_r_wr, z_n_wr, z_a_wr, z_q_wr, z_z_wr, z_t_wa, z_i_wa, z_r_wa, z_n_wa, z_a_wa, z_q_wa, z_z_wa, z_t_wq, z_i_wq, z_r_wq, z_n_wq, z_a_wq, z_q_wq, z_z_wq, z_t_nw, z_i_nw, z_r_nw, z_n_nw, z_a_nw, z_q_nw, z_z_nw, z_t_uq, z_i_uq, z_r_uq, z_n_uq, z_a_uq, z_z_uq, z_q_uq, hX1_soakedWhenItSinks_0, hX1_soakedWhenItSinks_1, hX1_soakedWhenItSinks_4, hX1_soakedWhenItSinks_7, hX1_soakedWhenItSinks_9, hX1_soakedWhenItSinks_10, hX1_soakedWhenItSinks_11, hX1_soakedWhenItSinks_14, hX1_soakedWhenItSinks_15, hX1_soakedWhenItSinks_18, hX1_soakedWhenItSinks_20, hX1_soakedWhenItSinks_23, hX1_soakedWhenItSinks_25, clX1_soakedWhenItSinks, hg]
    generalize z_i σ 1 1 g = w at hp ⊢
    by_cases h1 : w = 0 <;> by_cases h2 : w = 1 <;> simp_all
  · exact hp.elim
theorem ctX1_soakedWhenItSinks (l : Launch) : z_Ct l yX1_soakedWhenItSinks cX1_soakedWhenItSinks 1 (some .int) rX1_soakedWhenItSinks pX1_soakedWhenItSinks 0 0 := z_Ct_of (T := tX1_soakedWhenItSinks) (cl := clX1_soakedWhenItSinks) (rk := 1) (by decide +kernel) false (fun h => by first | rfl | cases h) oX1_soakedWhenItSinks (by first | exact Or.inl ⟨rfl, rfl⟩ | exact Or.inr (Or.inl ⟨rfl, rfl⟩) | exact Or.inr (Or.inr (Or.inl ⟨rfl, rfl⟩)) | exact Or.inr (Or.inr (Or.inr (Or.inl ⟨rfl, rfl⟩))) | exact Or.inr (Or.inr (Or.inr (Or.inr (Or.inl ⟨rfl, rfl⟩)))) | exact Or.inr (Or.inr (Or.inr (Or.inr (Or.inr ⟨rfl, Or.inl ⟨_, rfl⟩⟩)))) | exact Or.inr (Or.inr (Or.inr (Or.inr (Or.inr ⟨rfl, Or.inr ⟨_, rfl⟩⟩))))) rfl rfl (kX1_soakedWhenItSinks l) (by intro as σ K h; unfold pX1_soakedWhenItSinks at h; split at h <;> first | (simp [lg_sl, Value.category]; done) | exact h.elim) gX1_soakedWhenItSinks
theorem z_wi_self (σ : bS) (c k a : Nat) : z_wi σ c k a (z_i σ c k a) = σ := by
  have : (fun c' k' a' => if c' = c ∧ k' = k ∧ a' = a then z_i σ c k a else z_i σ c' k' a') = z_i σ := by
    funext c' k' a'
    by_cases h : c' = c ∧ k' = k ∧ a' = a
    · rw [if_pos h, h.1, h.2.1, h.2.2]
    · rw [if_neg h]
  show (z_t σ, (fun c' k' a' => if c' = c ∧ k' = k ∧ a' = a then z_i σ c k a else z_i σ c' k' a'), z_r σ, z_n σ, z_a σ, z_q σ, z_z σ) = σ
  rw [this]
  rfl
theorem z_uq_self (σ : bS) (a : Nat) : z_uq σ a (z_q σ a) = σ := by
  have : (fun a' => if a' = a then z_q σ a else z_q σ a') = z_q σ := by
    funext a'
    by_cases h : a' = a
    · rw [if_pos h, h]
    · rw [if_neg h]
  show (z_t σ, z_i σ, z_r σ, z_n σ, z_a σ, (fun a' => if a' = a then z_q σ a else z_q σ a'), z_z σ) = σ
  rw [this]
  rfl
theorem z_uq_uq (σ : bS) (a : Nat) (f f' : Nat → Option Nat) : z_uq (z_uq σ a f) a f' = z_uq σ a f' := by
  unfold z_uq
  have : (fun a' => if a' = a then f' else (if a' = a then f else z_q σ a')) = (fun a' => if a' = a then f' else z_q σ a') := by
    funext a'
    by_cases h : a' = a
    · rw [if_pos h, if_pos h]
    · rw [if_neg h, if_neg h, if_neg h]
  exact congrArg (fun F => (z_t σ, z_i σ, z_r σ, z_n σ, z_a σ, F, z_z σ)) this
theorem z_wq_uq2 (σ : bS) (a j : Nat) (f : Nat → Option Nat) (x : Option Nat) : z_wq (z_uq σ a f) a j x = z_uq σ a (fun j' => if j' = j then x else f j') := by
  rw [z_wq_uq, z_uq_uq]
  congr 1
  funext j'
  rw [z_q_uq, if_pos rfl]
theorem zc_dec (x : Int32) : x + -1 = x - 1 := by
  rw [Int32.sub_eq_add_neg]
def m_lgk : Nat → Int32 → Int32
  | 0, s => s
  | j + 1, s => if s &&& (1 <<< (nI j &&& 31)) = 0 then m_lgk j s else s - (1 <<< (nI j &&& 31))
def pX1_loseGreatestStroke : zPT := fun as σ K => match as with
  | [.ref g] => z_t σ g = 2 ∧ K none (z_wi σ 1 4 g (m_lgk 6 (z_i σ 1 4 g)))
  | _ => False
abbrev rX1_loseGreatestStroke : Room := { frames := 0, cells := 0, slots := 0, locals := 0 }
def clX1_loseGreatestStroke : List zC := []
set_option maxRecDepth 20000 in
theorem kX1_loseGreatestStroke (l : Launch) : ∀ q ∈ clX1_loseGreatestStroke, z_CallP l RX1 cX1_loseGreatestStroke 3 rX1_loseGreatestStroke q := by
  intro q hq
  cases hq
set_option maxHeartbeats 4000000 in
set_option maxRecDepth 20000 in
theorem gX1_loseGreatestStroke : ∀ (as : List Value) (σ : bS) (Kp : Option Value → bS → Prop), pX1_loseGreatestStroke as σ Kp → ∀ K : zK, z_Cl tX1_loseGreatestStroke clX1_loseGreatestStroke (fun v σ c n => Kp v σ ∧ c ≤ 0 ∧ n ≤ 0) 0 0 0 K → K 0 (lv_args 0 as) [] σ 0 0 := by
  intro as σ Kp hp K hK
  unfold pX1_loseGreatestStroke at hp
  split at hp
  · rename_i g
    obtain ⟨hg, hp⟩ := hp
    have loop : ∀ j : Nat, j ≤ 6 → Kp none (z_wi σ 1 4 g (m_lgk j (z_i σ 1 4 g))) → K 2 [(0, .ref g), (1, .int (nI j - 1))] [] σ 0 0 := by
      intro j
      induction j with
      | zero =>
        intro _ h
        refine hK.1 [(2, [0, 1])] 60 _ _ _ _ _ _ ?_
        simp only [ze_iconst, ze_bipush, ze_sipush, ze_lconst, ze_dconst, ze_aconst_null, ze_ldc, ze_ldc_w, ze_ldc2_w, ze_ldc2_w1, ze_iload, ze_iload_n, ze_lload, ze_lload_n, ze_aload, ze_aload_n, ze_istore, ze_istore_n, ze_lstore, ze_lstore_n, ze_astore, ze_astore_n, ze_iinc, ze_iadd, ze_isub, ze_imul, ze_iand, ze_ior, ze_ixor, ze_ishl, ze_ishr, ze_idiv, ze_irem, ze_ineg, ze_ladd, ze_lsub, ze_lmul, ze_ldiv, ze_lcmp, ze_i2l, ze_l2i, ze_i2d, ze_ddiv, ze_dmul, ze_dsub, ze_dcmp, ze_dup, ze_pop, ze_dup_x1, ze_dup2, ze_goto, ze_ifnull, ze_ifnonnull, ze_getfield, ze_getfield1, ze_putfield, ze_putfield1, ze_iaload, ze_aaload, ze_iastore, ze_aastore, ze_getstatic, ze_arraylength, ze_new, ze_newarray, ze_anewarray, ze_checkcast, ze_invokevirtual, ze_invokespecial, ze_invokestatic, ze_ireturn, ze_lreturn, ze_dreturn, ze_areturn, ze_return_, ze_tableswitch, ze_ifCond_eq, ze_ifCond_ne, ze_ifCond_lt, ze_ifCond_ge, ze_ifCond_gt, ze_ifCond_le, ze_if_icmp_eq, ze_if_icmp_ne, ze_if_icmp_lt, ze_if_icmp_ge, ze_if_icmp_gt, ze_if_icmp_le, ze_acmp_eq, ze_acmp_ne, zs_ldi, zs_ldl, zs_lda, zs_inc, zs_sw0, zs_sw, zs_cb, zs_cb0, zs_inv0, zs_inv1, zs_inv2, zs_inv3, zs_inv4, zs_inv5, zs_inv6, zs_gl, zs_rm0, zs_rm, zs_rm20, zs_rm2, zs_p0, zs_p00, zs_gl0, zs_pk0, zs_pk, zs_fc, zs_ck0, zs_ck, zs_cat0, zs_cat, zs_ci, zs_cl, zs_cd, zs_cr, zs_cn, zs_cf, zs_cu, zs_cu0, zs_wp, zs_wp0, z_rf_ref, z_rf_null, z_rf_rf, z_o_ref, z_o_null, z_o_rf, va_rf_some, va_rf_none, zc_om1, zc_o0, zc_o1, zc_o2, zc_o3, zc_o4, zc_o5, zc_o6, zc_o7, zc_o8, zc_om4, zc_bm2, zc_b6, zc_b7, zc_b8, zc_b9, zc_b10, zc_b11, zc_b12, zc_b14, zc_b15, zc_b16, zc_b17, zc_b18, zc_b20, zc_b21, zc_b22, zc_b24, zc_b30, zc_b40, zc_b41, zc_b60, zc_b63, zc_b64, zc_b66, zc_b76, zc_nI, if_pos, if_neg, reduceIte, Nat.reduceAdd, Nat.reduceMul, Nat.reduceSub, Nat.reduceEqDiff, Nat.reduceLeDiff, Nat.reduceBEq, and_true, true_and, or_true, true_or, or_false, false_or, and_false, false_and, and_self, or_self, implies_true, forall_const, not_true_eq_false, not_false_eq_true, reduceCtorEq, Nat.zero_add, Nat.add_zero, Nat.add_eq_right, Nat.add_right_cancel_iff, Nat.succ_ne_zero, Nat.le_refl, true_implies, false_implies, Option.some.injEq, zc_f0, zc_f1, zc_f2, zc_f3, zs_args, zs_args0, List.length_cons, List.length_nil, z_t_wi, z_i_wi, z_r_wi, z_n_wi, z_a_wi, z_q_wi, z_z_wi, z_t_wr, z_i_wr, z_r_wr, z_n_wr, z_a_wr, z_q_wr, z_z_wr, z_t_wa, z_i_wa, z_r_wa, z_n_wa, z_a_wa, z_q_wa, z_z_wa, z_t_wq, z_i_wq, z_r_wq, z_n_wq, z_a_wq, z_q_wq, z_z_wq, z_t_nw, z_i_nw, z_r_nw, z_n_nw, z_a_nw, z_q_nw, z_z_nw, z_t_uq, z_i_uq, z_r_uq, z_n_uq, z_a_uq, z_z_uq, z_q_uq, hX1_loseGreatestStroke_0, hX1_loseGreatestStroke_1, hX1_loseGreatestStroke_2, hX1_loseGreatestStroke_3, hX1_loseGreatestStroke_6, hX1_loseGreatestStroke_7, hX1_loseGreatestStroke_8, hX1_loseGreatestStroke_9, hX1_loseGreatestStroke_10, hX1_loseGreatestStroke_11, hX1_loseGreatestStroke_14, hX1_loseGreatestStroke_15, hX1_loseGreatestStroke_16, hX1_loseGreatestStroke_19, hX1_loseGreatestStroke_20, hX1_loseGreatestStroke_21, hX1_loseGreatestStroke_24, hX1_loseGreatestStroke_25, hX1_loseGreatestStroke_26, hX1_loseGreatestStroke_29, hX1_loseGreatestStroke_30, hX1_loseGreatestStroke_33, hX1_loseGreatestStroke_36, clX1_loseGreatestStroke, hg]
        rw [show m_lgk 0 (z_i σ 1 4 g) = z_i σ 1 4 g from rfl, z_wi_self] at h
        exact ⟨fun _ => h, fun h9 => absurd (by decide) h9⟩
      | succ j ih =>
        intro hj h
        refine hK.1 [(2, [0, 1])] 60 _ _ _ _ _ _ ?_
        rw [nI_pred]
        simp only [ze_iconst, ze_bipush, ze_sipush, ze_lconst, ze_dconst, ze_aconst_null, ze_ldc, ze_ldc_w, ze_ldc2_w, ze_ldc2_w1, ze_iload, ze_iload_n, ze_lload, ze_lload_n, ze_aload, ze_aload_n, ze_istore, ze_istore_n, ze_lstore, ze_lstore_n, ze_astore, ze_astore_n, ze_iinc, ze_iadd, ze_isub, ze_imul, ze_iand, ze_ior, ze_ixor, ze_ishl, ze_ishr, ze_idiv, ze_irem, ze_ineg, ze_ladd, ze_lsub, ze_lmul, ze_ldiv, ze_lcmp, ze_i2l, ze_l2i, ze_i2d, ze_ddiv, ze_dmul, ze_dsub, ze_dcmp, ze_dup, ze_pop, ze_dup_x1, ze_dup2, ze_goto, ze_ifnull, ze_ifnonnull, ze_getfield, ze_getfield1, ze_putfield, ze_putfield1, ze_iaload, ze_aaload, ze_iastore, ze_aastore, ze_getstatic, ze_arraylength, ze_new, ze_newarray, ze_anewarray, ze_checkcast, ze_invokevirtual, ze_invokespecial, ze_invokestatic, ze_ireturn, ze_lreturn, ze_dreturn, ze_areturn, ze_return_, ze_tableswitch, ze_ifCond_eq, ze_ifCond_ne, ze_ifCond_lt, ze_ifCond_ge, ze_ifCond_gt, ze_ifCond_le, ze_if_icmp_eq, ze_if_icmp_ne, ze_if_icmp_lt, ze_if_icmp_ge, ze_if_icmp_gt, ze_if_icmp_le, ze_acmp_eq, ze_acmp_ne, zs_ldi, zs_ldl, zs_lda, zs_inc, zs_sw0, zs_sw, zs_cb, zs_cb0, zs_inv0, zs_inv1, zs_inv2, zs_inv3, zs_inv4, zs_inv5, zs_inv6, zs_gl, zs_rm0, zs_rm, zs_rm20, zs_rm2, zs_p0, zs_p00, zs_gl0, zs_pk0, zs_pk, zs_fc, zs_ck0, zs_ck, zs_cat0, zs_cat, zs_ci, zs_cl, zs_cd, zs_cr, zs_cn, zs_cf, zs_cu, zs_cu0, zs_wp, zs_wp0, z_rf_ref, z_rf_null, z_rf_rf, z_o_ref, z_o_null, z_o_rf, va_rf_some, va_rf_none, zc_om1, zc_o0, zc_o1, zc_o2, zc_o3, zc_o4, zc_o5, zc_o6, zc_o7, zc_o8, zc_om4, zc_bm2, zc_b6, zc_b7, zc_b8, zc_b9, zc_b10, zc_b11, zc_b12, zc_b14, zc_b15, zc_b16, zc_b17, zc_b18, zc_b20, zc_b21, zc_b22, zc_b24, zc_b30, zc_b40, zc_b41, zc_b60, zc_b63, zc_b64, zc_b66, zc_b76, zc_nI, if_pos, if_neg, reduceIte, Nat.reduceAdd, Nat.reduceMul, Nat.reduceSub, Nat.reduceEqDiff, Nat.reduceLeDiff, Nat.reduceBEq, and_true, true_and, or_true, true_or, or_false, false_or, and_false, false_and, and_self, or_self, implies_true, forall_const, not_true_eq_false, not_false_eq_true, reduceCtorEq, Nat.zero_add, Nat.add_zero, Nat.add_eq_right, Nat.add_right_cancel_iff, Nat.succ_ne_zero, Nat.le_refl, true_implies, false_implies, Option.some.injEq, zc_f0, zc_f1, zc_f2, zc_f3, zs_args, zs_args0, List.length_cons, List.length_nil, z_t_wi, z_i_wi, z_r_wi, z_n_wi, z_a_wi, z_q_wi, z_z_wi, z_t_wr, z_i_wr, z_r_wr, z_n_wr, z_a_wr, z_q_wr, z_z_wr, z_t_wa, z_i_wa, z_r_wa, z_n_wa, z_a_wa, z_q_wa, z_z_wa, z_t_wq, z_i_wq, z_r_wq, z_n_wq, z_a_wq, z_q_wq, z_z_wq, z_t_nw, z_i_nw, z_r_nw, z_n_nw, z_a_nw, z_q_nw, z_z_nw, z_t_uq, z_i_uq, z_r_uq, z_n_uq, z_a_uq, z_z_uq, z_q_uq, hX1_loseGreatestStroke_0, hX1_loseGreatestStroke_1, hX1_loseGreatestStroke_2, hX1_loseGreatestStroke_3, hX1_loseGreatestStroke_6, hX1_loseGreatestStroke_7, hX1_loseGreatestStroke_8, hX1_loseGreatestStroke_9, hX1_loseGreatestStroke_10, hX1_loseGreatestStroke_11, hX1_loseGreatestStroke_14, hX1_loseGreatestStroke_15, hX1_loseGreatestStroke_16, hX1_loseGreatestStroke_19, hX1_loseGreatestStroke_20, hX1_loseGreatestStroke_21, hX1_loseGreatestStroke_24, hX1_loseGreatestStroke_25, hX1_loseGreatestStroke_26, hX1_loseGreatestStroke_29, hX1_loseGreatestStroke_30, hX1_loseGreatestStroke_33, hX1_loseGreatestStroke_36, clX1_loseGreatestStroke, hg]
        refine ⟨fun h9 => absurd h9 (nI_pos (by omega)), fun _ => ⟨fun h9 => ?_, fun h9 => ?_⟩⟩
        · rw [zc_dec]
          refine ih (by omega) ?_
          unfold m_lgk at h
          rw [if_pos h9] at h
          exact h
        · unfold m_lgk at h
          rw [if_neg h9] at h
          exact h
    refine hK.1 [(2, [0, 1])] 60 _ _ _ _ _ _ ?_
    simp only [ze_iconst, ze_bipush, ze_sipush, ze_lconst, ze_dconst, ze_aconst_null, ze_ldc, ze_ldc_w, ze_ldc2_w, ze_ldc2_w1, ze_iload, ze_iload_n, ze_lload, ze_lload_n, ze_aload, ze_aload_n, ze_istore, ze_istore_n, ze_lstore, ze_lstore_n, ze_astore, ze_astore_n, ze_iinc, ze_iadd, ze_isub, ze_imul, ze_iand, ze_ior, ze_ixor, ze_ishl, ze_ishr, ze_idiv, ze_irem, ze_ineg, ze_ladd, ze_lsub, ze_lmul, ze_ldiv, ze_lcmp, ze_i2l, ze_l2i, ze_i2d, ze_ddiv, ze_dmul, ze_dsub, ze_dcmp, ze_dup, ze_pop, ze_dup_x1, ze_dup2, ze_goto, ze_ifnull, ze_ifnonnull, ze_getfield, ze_getfield1, ze_putfield, ze_putfield1, ze_iaload, ze_aaload, ze_iastore, ze_aastore, ze_getstatic, ze_arraylength, ze_new, ze_newarray, ze_anewarray, ze_checkcast, ze_invokevirtual, ze_invokespecial, ze_invokestatic, ze_ireturn, ze_lreturn, ze_dreturn, ze_areturn, ze_return_, ze_tableswitch, ze_ifCond_eq, ze_ifCond_ne, ze_ifCond_lt, ze_ifCond_ge, ze_ifCond_gt, ze_ifCond_le, ze_if_icmp_eq, ze_if_icmp_ne, ze_if_icmp_lt, ze_if_icmp_ge, ze_if_icmp_gt, ze_if_icmp_le, ze_acmp_eq, ze_acmp_ne, zs_ldi, zs_ldl, zs_lda, zs_inc, zs_sw0, zs_sw, zs_cb, zs_cb0, zs_inv0, zs_inv1, zs_inv2, zs_inv3, zs_inv4, zs_inv5, zs_inv6, zs_gl, zs_rm0, zs_rm, zs_rm20, zs_rm2, zs_p0, zs_p00, zs_gl0, zs_pk0, zs_pk, zs_fc, zs_ck0, zs_ck, zs_cat0, zs_cat, zs_ci, zs_cl, zs_cd, zs_cr, zs_cn, zs_cf, zs_cu, zs_cu0, zs_wp, zs_wp0, z_rf_ref, z_rf_null, z_rf_rf, z_o_ref, z_o_null, z_o_rf, va_rf_some, va_rf_none, zc_om1, zc_o0, zc_o1, zc_o2, zc_o3, zc_o4, zc_o5, zc_o6, zc_o7, zc_o8, zc_om4, zc_bm2, zc_b6, zc_b7, zc_b8, zc_b9, zc_b10, zc_b11, zc_b12, zc_b14, zc_b15, zc_b16, zc_b17, zc_b18, zc_b20, zc_b21, zc_b22, zc_b24, zc_b30, zc_b40, zc_b41, zc_b60, zc_b63, zc_b64, zc_b66, zc_b76, zc_nI, if_pos, if_neg, reduceIte, Nat.reduceAdd, Nat.reduceMul, Nat.reduceSub, Nat.reduceEqDiff, Nat.reduceLeDiff, Nat.reduceBEq, and_true, true_and, or_true, true_or, or_false, false_or, and_false, false_and, and_self, or_self, implies_true, forall_const, not_true_eq_false, not_false_eq_true, reduceCtorEq, Nat.zero_add, Nat.add_zero, Nat.add_eq_right, Nat.add_right_cancel_iff, Nat.succ_ne_zero, Nat.le_refl, true_implies, false_implies, Option.some.injEq, zc_f0, zc_f1, zc_f2, zc_f3, zs_args, zs_args0, List.length_cons, List.length_nil, z_t_wi, z_i_wi, z_r_wi, z_n_wi, z_a_wi, z_q_wi, z_z_wi, z_t_wr, z_i_wr, z_r_wr, z_n_wr, z_a_wr, z_q_wr, z_z_wr, z_t_wa, z_i_wa, z_r_wa, z_n_wa, z_a_wa, z_q_wa, z_z_wa, z_t_wq, z_i_wq, z_r_wq, z_n_wq, z_a_wq, z_q_wq, z_z_wq, z_t_nw, z_i_nw, z_r_nw, z_n_nw, z_a_nw, z_q_nw, z_z_nw, z_t_uq, z_i_uq, z_r_uq, z_n_uq, z_a_uq, z_z_uq, z_q_uq, hX1_loseGreatestStroke_0, hX1_loseGreatestStroke_1, hX1_loseGreatestStroke_2, hX1_loseGreatestStroke_3, hX1_loseGreatestStroke_6, hX1_loseGreatestStroke_7, hX1_loseGreatestStroke_8, hX1_loseGreatestStroke_9, hX1_loseGreatestStroke_10, hX1_loseGreatestStroke_11, hX1_loseGreatestStroke_14, hX1_loseGreatestStroke_15, hX1_loseGreatestStroke_16, hX1_loseGreatestStroke_19, hX1_loseGreatestStroke_20, hX1_loseGreatestStroke_21, hX1_loseGreatestStroke_24, hX1_loseGreatestStroke_25, hX1_loseGreatestStroke_26, hX1_loseGreatestStroke_29, hX1_loseGreatestStroke_30, hX1_loseGreatestStroke_33, hX1_loseGreatestStroke_36, clX1_loseGreatestStroke, hg]
    exact loop 6 (by omega) hp
  · exact hp.elim
theorem ctX1_loseGreatestStroke (l : Launch) : z_Ct l yX1_loseGreatestStroke cX1_loseGreatestStroke 3 (none) rX1_loseGreatestStroke pX1_loseGreatestStroke 0 0 := z_Ct_of (T := tX1_loseGreatestStroke) (cl := clX1_loseGreatestStroke) (rk := 0) (by decide +kernel) false (fun h => by first | rfl | cases h) oX1_loseGreatestStroke (by first | exact Or.inl ⟨rfl, rfl⟩ | exact Or.inr (Or.inl ⟨rfl, rfl⟩) | exact Or.inr (Or.inr (Or.inl ⟨rfl, rfl⟩)) | exact Or.inr (Or.inr (Or.inr (Or.inl ⟨rfl, rfl⟩))) | exact Or.inr (Or.inr (Or.inr (Or.inr (Or.inl ⟨rfl, rfl⟩)))) | exact Or.inr (Or.inr (Or.inr (Or.inr (Or.inr ⟨rfl, Or.inl ⟨_, rfl⟩⟩)))) | exact Or.inr (Or.inr (Or.inr (Or.inr (Or.inr ⟨rfl, Or.inr ⟨_, rfl⟩⟩))))) rfl rfl (kX1_loseGreatestStroke l) (by intro as σ K h; unfold pX1_loseGreatestStroke at h; split at h <;> first | (simp [lg_sl, Value.category]; done) | exact h.elim) gX1_loseGreatestStroke
/-- fields 1 .. m are copied -/
def m_cp (g o m : Nat) (σ σ' : bS) : Prop := z_t σ' = z_t σ ∧ z_r σ' = z_r σ ∧ z_n σ' = z_n σ ∧ z_a σ' = z_a σ ∧ z_q σ' = z_q σ ∧ z_z σ' = z_z σ ∧ ∀ c k x, z_i σ' c k x = if c = 1 ∧ 1 ≤ k ∧ k ≤ m ∧ x = g then z_i σ 1 k o else z_i σ c k x
theorem m_cp0 (g o : Nat) (σ : bS) : m_cp g o 0 σ σ := ⟨rfl, rfl, rfl, rfl, rfl, rfl, fun c k x => by rw [if_neg]; omega⟩
theorem m_cp1 {g o m : Nat} {σ σ' : bS} (h : m_cp g o m σ σ') : m_cp g o (m + 1) σ (z_wi σ' 1 (m + 1) g (z_i σ 1 (m + 1) o)) := by
  obtain ⟨h1, h2, h3, h4, h5, h6, h7⟩ := h
  refine ⟨h1, h2, h3, h4, h5, h6, fun c k x => ?_⟩
  rw [z_i_wi, h7]
  by_cases ha : c = 1 ∧ k = m + 1 ∧ x = g
  · rw [if_pos ha, if_pos (by omega), ha.2.1]
  · rw [if_neg ha]
    by_cases hb : c = 1 ∧ 1 ≤ k ∧ k ≤ m ∧ x = g
    · rw [if_pos hb, if_pos (by omega)]
    · rw [if_neg hb, if_neg (by omega)]
def pX1_copyFrom : zPT := fun as σ K => match as with
  | [.ref g, .ref o] => z_t σ g = 2 ∧ z_t σ o = 2 ∧ ∀ σ', m_cp g o 10 σ σ' → K none σ'
  | _ => False
abbrev rX1_copyFrom : Room := { frames := 0, cells := 0, slots := 0, locals := 0 }
def clX1_copyFrom : List zC := []
set_option maxRecDepth 20000 in
theorem kX1_copyFrom (l : Launch) : ∀ q ∈ clX1_copyFrom, z_CallP l RX1 cX1_copyFrom 2 rX1_copyFrom q := by
  intro q hq
  cases hq
set_option maxHeartbeats 4000000 in
set_option maxRecDepth 20000 in
theorem gX1_copyFrom : ∀ (as : List Value) (σ : bS) (Kp : Option Value → bS → Prop), pX1_copyFrom as σ Kp → ∀ K : zK, z_Cl tX1_copyFrom clX1_copyFrom (fun v σ c n => Kp v σ ∧ c ≤ 0 ∧ n ≤ 0) 0 0 0 K → K 0 (lv_args 0 as) [] σ 0 0 := by
  intro as σ Kp hp K hK
  unfold pX1_copyFrom at hp
  split at hp
  · rename_i g o
    obtain ⟨hg, ho, hp⟩ := hp
    refine hK.1 [] 90 _ _ _ _ _ _ ?_
    simp only [ze_iconst, ze_bipush, ze_sipush, ze_lconst, ze_dconst, ze_aconst_null, ze_ldc, ze_ldc_w, ze_ldc2_w, ze_ldc2_w1, ze_iload, ze_iload_n, ze_lload, ze_lload_n, ze_aload, ze_aload_n, ze_istore, ze_istore_n, ze_lstore, ze_lstore_n, ze_astore, ze_astore_n, ze_iinc, ze_iadd, ze_isub, ze_imul, ze_iand, ze_ior, ze_ixor, ze_ishl, ze_ishr, ze_idiv, ze_irem, ze_ineg, ze_ladd, ze_lsub, ze_lmul, ze_ldiv, ze_lcmp, ze_i2l, ze_l2i, ze_i2d, ze_ddiv, ze_dmul, ze_dsub, ze_dcmp, ze_dup, ze_pop, ze_dup_x1, ze_dup2, ze_goto, ze_ifnull, ze_ifnonnull, ze_getfield, ze_getfield1, ze_putfield, ze_putfield1, ze_iaload, ze_aaload, ze_iastore, ze_aastore, ze_getstatic, ze_arraylength, ze_new, ze_newarray, ze_anewarray, ze_checkcast, ze_invokevirtual, ze_invokespecial, ze_invokestatic, ze_ireturn, ze_lreturn, ze_dreturn, ze_areturn, ze_return_, ze_tableswitch, ze_ifCond_eq, ze_ifCond_ne, ze_ifCond_lt, ze_ifCond_ge, ze_ifCond_gt, ze_ifCond_le, ze_if_icmp_eq, ze_if_icmp_ne, ze_if_icmp_lt, ze_if_icmp_ge, ze_if_icmp_gt, ze_if_icmp_le, ze_acmp_eq, ze_acmp_ne, zs_ldi, zs_ldl, zs_lda, zs_inc, zs_sw0, zs_sw, zs_cb, zs_cb0, zs_inv0, zs_inv1, zs_inv2, zs_inv3, zs_inv4, zs_inv5, zs_inv6, zs_gl, zs_rm0, zs_rm, zs_rm20, zs_rm2, zs_p0, zs_p00, zs_gl0, zs_pk0, zs_pk, zs_fc, zs_ck0, zs_ck, zs_cat0, zs_cat, zs_ci, zs_cl, zs_cd, zs_cr, zs_cn, zs_cf, zs_cu, zs_cu0, zs_wp, zs_wp0, z_rf_ref, z_rf_null, z_rf_rf, z_o_ref, z_o_null, z_o_rf, va_rf_some, va_rf_none, zc_om1, zc_o0, zc_o1, zc_o2, zc_o3, zc_o4, zc_o5, zc_o6, zc_o7, zc_o8, zc_om4, zc_bm2, zc_b6, zc_b7, zc_b8, zc_b9, zc_b10, zc_b11, zc_b12, zc_b14, zc_b15, zc_b16, zc_b17, zc_b18, zc_b20, zc_b21, zc_b22, zc_b24, zc_b30, zc_b40, zc_b41, zc_b60, zc_b63, zc_b64, zc_b66, zc_b76, zc_nI, if_pos, if_neg, reduceIte, Nat.reduceAdd, Nat.reduceMul, Nat.reduceSub, Nat.reduceEqDiff, Nat.reduceLeDiff, Nat.reduceBEq, and_true, true_and, or_true, true_or, or_false, false_or, and_false, false_and, and_self, or_self, implies_true, forall_const, not_true_eq_false, not_false_eq_true, reduceCtorEq, Nat.zero_add, Nat.add_zero, Nat.add_eq_right, Nat.add_right_cancel_iff, Nat.succ_ne_zero, Nat.le_refl, true_implies, false_implies, Option.some.injEq, zc_f0, zc_f1, zc_f2, zc_f3, zs_args, zs_args0, List.length_cons, List.length_nil, z_t_wi, z_i_wi, z_r_wi, z_n_wi, z_a_wi, z_q_wi, z_z_wi, z_t_wr, z_i_wr, z_r_wr, z_n_wr, z_a_wr, z_q_wr, z_z_wr, z_t_wa, z_i_wa, z_r_wa, z_n_wa, z_a_wa, z_q_wa, z_z_wa, z_t_wq, z_i_wq, z_r_wq, z_n_wq, z_a_wq, z_q_wq, z_z_wq, z_t_nw, z_i_nw, z_r_nw, z_n_nw, z_a_nw, z_q_nw, z_z_nw, z_t_uq, z_i_uq, z_r_uq, z_n_uq, z_a_uq, z_z_uq, z_q_uq, hX1_copyFrom_0, hX1_copyFrom_1, hX1_copyFrom_2, hX1_copyFrom_5, hX1_copyFrom_8, hX1_copyFrom_9, hX1_copyFrom_10, hX1_copyFrom_13, hX1_copyFrom_16, hX1_copyFrom_17, hX1_copyFrom_18, hX1_copyFrom_21, hX1_copyFrom_24, hX1_copyFrom_25, hX1_copyFrom_26, hX1_copyFrom_29, hX1_copyFrom_32, hX1_copyFrom_33, hX1_copyFrom_34, hX1_copyFrom_37, hX1_copyFrom_40, hX1_copyFrom_41, hX1_copyFrom_42, hX1_copyFrom_45, hX1_copyFrom_48, hX1_copyFrom_49, hX1_copyFrom_50, hX1_copyFrom_53, hX1_copyFrom_56, hX1_copyFrom_57, hX1_copyFrom_58, hX1_copyFrom_61, hX1_copyFrom_64, hX1_copyFrom_65, hX1_copyFrom_66, hX1_copyFrom_69, hX1_copyFrom_72, hX1_copyFrom_73, hX1_copyFrom_74, hX1_copyFrom_77, hX1_copyFrom_80, clX1_copyFrom, hg, ho]
    exact hp _ (m_cp1 (m_cp1 (m_cp1 (m_cp1 (m_cp1 (m_cp1 (m_cp1 (m_cp1 (m_cp1 (m_cp1 (m_cp0 g o σ)))))))))))
  · exact hp.elim
theorem ctX1_copyFrom (l : Launch) : z_Ct l yX1_copyFrom cX1_copyFrom 2 (none) rX1_copyFrom pX1_copyFrom 0 0 := z_Ct_of (T := tX1_copyFrom) (cl := clX1_copyFrom) (rk := 0) (by decide +kernel) false (fun h => by first | rfl | cases h) oX1_copyFrom (by first | exact Or.inl ⟨rfl, rfl⟩ | exact Or.inr (Or.inl ⟨rfl, rfl⟩) | exact Or.inr (Or.inr (Or.inl ⟨rfl, rfl⟩)) | exact Or.inr (Or.inr (Or.inr (Or.inl ⟨rfl, rfl⟩))) | exact Or.inr (Or.inr (Or.inr (Or.inr (Or.inl ⟨rfl, rfl⟩)))) | exact Or.inr (Or.inr (Or.inr (Or.inr (Or.inr ⟨rfl, Or.inl ⟨_, rfl⟩⟩)))) | exact Or.inr (Or.inr (Or.inr (Or.inr (Or.inr ⟨rfl, Or.inr ⟨_, rfl⟩⟩))))) rfl rfl (kX1_copyFrom l) (by intro as σ K h; unfold pX1_copyFrom at h; split at h <;> first | (simp [lg_sl, Value.category]; done) | exact h.elim) gX1_copyFrom
