/-! ===== a new system ===== -/
def m_w0 : wS := (m_new, fun _ _ => 0, 0, fun _ _ => 0, 0, fun _ _ => 0, fun _ => 0, 0, 0)
theorem w_top.ex {P : Nat → Prop} {B : Nat} {σ σ' : bS} {b : Nat} {cr co : Int32} (h : w_top σ b cr co) (hx : v_ex P B σ σ') (hb : b < B) (hP : ¬ P b) : w_top σ' b cr co := by
  obtain ⟨t1, t2, t3, t4, t5, t6, t7, t8⟩ := h
  obtain ⟨a1, a2, a3, a4⟩ := hx.2 b hb
  obtain ⟨b1, b2, b3⟩ := a4 hP
  exact ⟨a1.trans t1, (b2 _ _).trans t2, (b2 _ _).trans t3, (b2 _ _).trans t4, (b2 _ _).trans t5, (b2 _ _).trans t6, (b1 _ _).trans t7, (b1 _ _).trans t8⟩
/-- what stands before the owners are made -/
def w_pre (σ : bS) (b s1 s2 s3 s4 : Nat) : Prop := w_top σ b 0 0 ∧ z_t σ (b + 93) = 25 ∧ z_n σ (b + 93) = 4 ∧ v_al σ (b + 94) s3 0 (fun _ => 0) ∧ v_al σ (b + 95) s4 0 (fun _ => 0) ∧ v_rep σ (b + 1) s1 (fun _ => 0) m_new ∧ v_rep σ (b + 47) s2 (fun _ => 0) m_new ∧ z_t σ s1 = 32 ∧ z_t σ s2 = 32 ∧ z_t σ s3 = 32 ∧ z_t σ s4 = 32
theorem w_pre.ex {σ σ' : bS} {b s1 s2 s3 s4 : Nat} (h : w_pre σ b s1 s2 s3 s4) (he : v_env σ) (hx : v_ex (fun u => u = b + 93) (z_z σ) σ σ') : w_pre σ' b s1 s2 s3 s4 := by
  obtain ⟨t, p1, p2, p3, p4, p5, p6, k1, k2, k3, k4⟩ := h
  have kk : ∀ s, z_t σ s = 32 → z_t σ' s = 32 := fun s hs => ((hx.2 _ (he.lt hs (by decide))).1).trans hs
  have k26 : ∀ s, z_t σ s = 32 ∨ z_t σ s = 26 → ¬ s = b + 93 := fun s hs e => by
    rw [e, p1] at hs
    rcases hs with hs | hs <;> exact absurd hs (by decide)
  have ked : ∀ {L s : Nat}, v_al σ L s 0 (fun _ => 0) → z_t σ s = 26 → ¬ s = b + 93 := fun _ h26 => k26 _ (Or.inr h26)
  refine ⟨t.ex hx (he.lt t.1 (by decide)) (by omega), ((hx.2 _ (he.lt p1 (by decide))).1).trans p1, ((hx.2 _ (he.lt p1 (by decide))).2.1).trans p2, p3.ex he hx (by omega) (ked p3), p4.ex he hx (by omega) (ked p4), p5.ex he hx (fun x x1 x2 e => by omega) (fun i hi => absurd hi (Nat.not_lt_zero i)) ?_, p6.ex he hx (fun x x1 x2 e => by omega) (fun i hi => absurd hi (Nat.not_lt_zero i)) ?_, kk _ k1, kk _ k2, kk _ k3, kk _ k4⟩
  · rcases p5.2.1.2.2.2 with z | z
    · exact k26 _ (Or.inl z.1)
    · exact k26 _ (Or.inr z.1)
  · rcases p6.2.1.2.2.2 with z | z
    · exact k26 _ (Or.inl z.1)
    · exact k26 _ (Or.inr z.1)
/-- owners so far -/
def w_ownk (σ : bS) (b k : Nat) : Prop := ∀ j, j < k → z_q σ (b + 93) j = some (b + 96 + j) ∧ z_t σ (b + 96 + j) = 4 ∧ ∀ f, f < 4 → z_i σ 3 f (b + 96 + j) = 0
def m_i0 (σ : bS) (b s3 s4 : Nat) : bS := z_wi (z_wi (z_wr (z_wr (z_wi (z_nw (z_wr (z_wr (z_wi (z_nw (z_wr (z_nw (z_wr σ 7 1 b (some (b + 47))) 25 4) 7 2 b (some (b + 93))) 9 0) 8 0 (b + 93 + 1) 0) 8 1 (b + 93 + 1) (some s3)) 7 3 b (some (b + 93 + 1))) 9 0) 8 0 (b + 93 + 1 + 1) 0) 8 1 (b + 93 + 1 + 1) (some s4)) 7 4 b (some (b + 93 + 1 + 1))) 7 5 b 0) 7 6 b 0
theorem m_i0_env {σ : bS} (h : v_env σ) (b s3 s4 : Nat) : v_env (m_i0 σ b s3 s4) := by
  have w1 : ∀ (s : bS) (c f a : Nat) (x : Int32), v_env s → v_env (z_wi s c f a x) := fun s c f a x h => h.same rfl rfl
  have w2 : ∀ (s : bS) (c f a : Nat) (x : Option Nat), v_env s → v_env (z_wr s c f a x) := fun s c f a x h => h.same rfl rfl
  have w3 : ∀ (s : bS) (t n : Nat), t ≠ 32 → v_env s → v_env (z_nw s t n) := fun s t n ht h => h.nw ht
  unfold m_i0
  repeat' first | with_reducible exact h | with_reducible apply w1 | with_reducible apply w2 | with_reducible apply w3 | decide
theorem m_i0_ex {σ : bS} {b : Nat} (hz : z_z σ = b + 93) (s3 s4 : Nat) : v_ex (fun u => u = b) (b + 93) σ (m_i0 σ b s3 s4) := by
  have w1 : ∀ (s : bS) (c k : Nat) (v : Int32), v_ex (fun u => u = b) (b + 93) σ s → v_ex (fun u => u = b) (b + 93) σ (z_wi s c k b v) := fun s c k v h => h.tr (v_ex.wi (Or.inl rfl))
  have w2 : ∀ (s : bS) (c k a : Nat) (v : Int32), b + 93 ≤ a → v_ex (fun u => u = b) (b + 93) σ s → v_ex (fun u => u = b) (b + 93) σ (z_wi s c k a v) := fun s c k a v ha h => h.tr (v_ex.wi (Or.inr ha))
  have r1 : ∀ (s : bS) (c k : Nat) (v : Option Nat), v_ex (fun u => u = b) (b + 93) σ s → v_ex (fun u => u = b) (b + 93) σ (z_wr s c k b v) := fun s c k v h => h.tr (v_ex.wr (Or.inl rfl))
  have r2 : ∀ (s : bS) (c k a : Nat) (v : Option Nat), b + 93 ≤ a → v_ex (fun u => u = b) (b + 93) σ s → v_ex (fun u => u = b) (b + 93) σ (z_wr s c k a v) := fun s c k a v ha h => h.tr (v_ex.wr (Or.inr ha))
  have n1 : ∀ (s : bS) (t n : Nat), b + 93 ≤ z_z s → v_ex (fun u => u = b) (b + 93) σ s → v_ex (fun u => u = b) (b + 93) σ (z_nw s t n) := fun s t n hb h => h.tr (v_ex.nw hb)
  unfold m_i0
  repeat' first | with_reducible exact v_ex.rf | with_reducible apply w1 | with_reducible apply r1 | with_reducible apply w2 | with_reducible apply r2 | with_reducible apply n1 | (simp only [z_t_wi, z_i_wi, z_r_wi, z_n_wi, z_a_wi, z_q_wi, z_z_wi, z_t_wr, z_i_wr, z_r_wr, z_n_wr, z_a_wr, z_q_wr, z_z_wr, z_t_wa, z_i_wa, z_r_wa, z_n_wa, z_a_wa, z_q_wa, z_z_wa, z_t_wq, z_i_wq, z_r_wq, z_n_wq, z_a_wq, z_q_wq, z_z_wq, z_t_nw, z_i_nw, z_r_nw, z_n_nw, z_a_nw, z_q_nw, z_z_nw, z_t_uq, z_i_uq, z_r_uq, z_n_uq, z_a_uq, z_z_uq, z_q_uq, hz]; done) | (simp only [z_t_wi, z_i_wi, z_r_wi, z_n_wi, z_a_wi, z_q_wi, z_z_wi, z_t_wr, z_i_wr, z_r_wr, z_n_wr, z_a_wr, z_q_wr, z_z_wr, z_t_wa, z_i_wa, z_r_wa, z_n_wa, z_a_wa, z_q_wa, z_z_wa, z_t_wq, z_i_wq, z_r_wq, z_n_wq, z_a_wq, z_q_wq, z_z_wq, z_t_nw, z_i_nw, z_r_nw, z_n_nw, z_a_nw, z_q_nw, z_z_nw, z_t_uq, z_i_uq, z_r_uq, z_n_uq, z_a_uq, z_z_uq, z_q_uq, hz]; omega) | omega
theorem m_i0_facts {σ : bS} {b : Nat} (hz : z_z σ = b + 93) (hb : z_t σ b = 8) (hb0 : z_r σ 7 0 b = some (b + 1)) (s3 s4 : Nat) : z_z (m_i0 σ b s3 s4) = b + 96 + 0 ∧ w_top (m_i0 σ b s3 s4) b 0 0 ∧ z_t (m_i0 σ b s3 s4) (b + 93) = 25 ∧ z_n (m_i0 σ b s3 s4) (b + 93) = 4 ∧ z_t (m_i0 σ b s3 s4) (b + 94) = 9 ∧ z_i (m_i0 σ b s3 s4) 8 2 (b + 94) = 0 ∧ z_r (m_i0 σ b s3 s4) 8 1 (b + 94) = some s3 ∧ z_t (m_i0 σ b s3 s4) (b + 95) = 9 ∧ z_i (m_i0 σ b s3 s4) 8 2 (b + 95) = 0 ∧ z_r (m_i0 σ b s3 s4) 8 1 (b + 95) = some s4 := by
  have f3 : (b = b + 93) = False := eq_false (by omega)
  have f4 : (b = b + 93 + 1) = False := eq_false (by omega)
  have f5 : (b = b + 93 + 1 + 1) = False := eq_false (by omega)
  have f6 : (b + 93 + 1 = b + 93 + 1 + 1) = False := eq_false (by omega)
  have f7 : (b + 93 = b + 93 + 1) = False := eq_false (by omega)
  have f8 : (b + 93 = b + 93 + 1 + 1) = False := eq_false (by omega)
  have f9 : (b + 93 + 1 = b + 93) = False := eq_false (by omega)
  have f10 : (b + 93 + 1 + 1 = b + 93) = False := eq_false (by omega)
  have f11 : (b + 93 + 1 + 1 = b + 93 + 1) = False := eq_false (by omega)
  have f12 : (b + 93 + 1 = b) = False := eq_false (by omega)
  have f13 : (b + 93 + 1 + 1 = b) = False := eq_false (by omega)
  have f14 : (b + 93 = b) = False := eq_false (by omega)
  rw [show b + 94 = b + 93 + 1 from rfl, show b + 95 = b + 93 + 1 + 1 from rfl, show b + 96 + 0 = b + 93 + 1 + 1 + 1 from rfl]
  unfold w_top
  rw [show b + 94 = b + 93 + 1 from rfl, show b + 95 = b + 93 + 1 + 1 from rfl]
  unfold m_i0
  simp only [ze_iconst, ze_bipush, ze_sipush, ze_lconst, ze_dconst, ze_aconst_null, ze_ldc, ze_ldc_w, ze_ldc2_w, ze_ldc2_w1, ze_iload, ze_iload_n, ze_lload, ze_lload_n, ze_aload, ze_aload_n, ze_istore, ze_istore_n, ze_lstore, ze_lstore_n, ze_astore, ze_astore_n, ze_iinc, ze_iadd, ze_isub, ze_imul, ze_iand, ze_ior, ze_ixor, ze_ishl, ze_ishr, ze_idiv, ze_irem, ze_ineg, ze_ladd, ze_lsub, ze_lmul, ze_ldiv, ze_lcmp, ze_i2l, ze_l2i, ze_i2d, ze_ddiv, ze_dmul, ze_dsub, ze_dcmp, ze_dup, ze_pop, ze_dup_x1, ze_dup2, ze_goto, ze_ifnull, ze_ifnonnull, ze_getfield, ze_getfield1, ze_putfield, ze_putfield1, ze_iaload, ze_aaload, ze_iastore, ze_aastore, ze_getstatic, ze_arraylength, ze_new, ze_newarray, ze_anewarray, ze_checkcast, ze_invokevirtual, ze_invokespecial, ze_invokestatic, ze_ireturn, ze_lreturn, ze_dreturn, ze_areturn, ze_return_, ze_tableswitch, ze_ifCond_eq, ze_ifCond_ne, ze_ifCond_lt, ze_ifCond_ge, ze_ifCond_gt, ze_ifCond_le, ze_if_icmp_eq, ze_if_icmp_ne, ze_if_icmp_lt, ze_if_icmp_ge, ze_if_icmp_gt, ze_if_icmp_le, ze_acmp_eq, ze_acmp_ne, zs_ldi, zs_ldl, zs_lda, zs_inc, zs_sw0, zs_sw, zs_cb, zs_cb0, zs_inv0, zs_inv1, zs_inv2, zs_inv3, zs_inv4, zs_inv5, zs_inv6, zs_gl, zs_rm0, zs_rm, zs_rm20, zs_rm2, zs_p0, zs_p00, zs_gl0, zs_pk0, zs_pk, zs_fc, zs_ck0, zs_ck, zs_cat0, zs_cat, zs_ci, zs_cl, zs_cd, zs_cr, zs_cn, zs_cf, zs_cu, zs_cu0, zs_wp, zs_wp0, z_rf_ref, z_rf_null, z_rf_rf, z_o_ref, z_o_null, z_o_rf, va_rf_some, va_rf_none, zc_om1, zc_o0, zc_o1, zc_o2, zc_o3, zc_o4, zc_o5, zc_o6, zc_o7, zc_o8, zc_om4, zc_bm2, zc_b6, zc_b7, zc_b8, zc_b9, zc_b10, zc_b11, zc_b12, zc_b14, zc_b15, zc_b16, zc_b17, zc_b18, zc_b20, zc_b21, zc_b22, zc_b24, zc_b30, zc_b40, zc_b41, zc_b60, zc_b63, zc_b64, zc_b66, zc_b76, zc_nI, if_pos, if_neg, reduceIte, Nat.reduceAdd, Nat.reduceMul, Nat.reduceSub, Nat.reduceEqDiff, Nat.reduceLeDiff, Nat.reduceBEq, and_true, true_and, or_true, true_or, or_false, false_or, and_false, false_and, and_self, or_self, implies_true, forall_const, not_true_eq_false, not_false_eq_true, reduceCtorEq, Nat.zero_add, Nat.add_zero, Nat.add_eq_right, Nat.add_right_cancel_iff, Nat.succ_ne_zero, Nat.le_refl, true_implies, false_implies, Option.some.injEq, zc_f0, zc_f1, zc_f2, zc_f3, zs_args, zs_args0, List.length_cons, List.length_nil, z_t_wi, z_i_wi, z_r_wi, z_n_wi, z_a_wi, z_q_wi, z_z_wi, z_t_wr, z_i_wr, z_r_wr, z_n_wr, z_a_wr, z_q_wr, z_z_wr, z_t_wa, z_i_wa, z_r_wa, z_n_wa, z_a_wa, z_q_wa, z_z_wa, z_t_wq, z_i_wq, z_r_wq, z_n_wq, z_a_wq, z_q_wq, z_z_wq, z_t_nw, z_i_nw, z_r_nw, z_n_nw, z_a_nw, z_q_nw, z_z_nw, z_t_uq, z_i_uq, z_r_uq, z_n_uq, z_a_uq, z_z_uq, z_q_uq, hz, hb, hb0, f3, f4, f5, f6, f7, f8, f9, f10, f11, f12, f13, f14]
def pX7_init : zPT := fun as σ K => match as with
  | [.ref y] => ∃ b : Nat, b = y ∧ z_t σ b = 8 ∧ z_z σ = b + 1 ∧ v_env σ ∧ v_e0 σ ∧ ∀ (σ' : bS) (E : Nat → Nat), w_rep σ' b E (fun _ => 0) (fun _ => 0) (fun _ => 0) (fun _ => 0) m_w0 → v_ex (fun u => u = b) (b + 1) σ σ' → z_z σ' = b + 100 → K none σ'
  | _ => False
abbrev rX7_init : Room := { frames := 5, cells := 99, slots := 1662, locals := 101 }
def clX7_init : List zC := [(13, 1, p_objinit, 0, 0), (45, 1, (z_PV 6 pX6_init), 45, 811), (109, 1, (z_PV 8 pJx4a65c_init_da8c8), 0, 0), (169, 1, (z_PV 3 pX3_init), 0, 0)]
set_option maxRecDepth 20000 in
theorem kX7_init (l : Launch) : ∀ q ∈ clX7_init, z_CallP l RX7 cX7_init 2 rX7_init q := by
  intro q hq
  simp only [clX7_init, List.mem_cons, List.not_mem_nil, or_false] at hq
  rcases hq with rfl | rfl | rfl | rfl
  · exact z_P_objinit (u := 3) (z_in 84 (by decide +kernel) (by decide +kernel)) (by decide) (by decide)
  · exact z_PV_IN (l := l) (own := RX7) (cc := cX7_init) (nL := 2) (R := rX7_init) (u := 11) (d := 6) (n := 0) (host := "BoomSorters") (ctX6_init l) wX6_init (by intro w hw; simp only [List.mem_cons, List.not_mem_nil, or_false] at hw; rcases hw with rfl | rfl; exact z_in 90 (by decide +kernel) (by decide +kernel); exact z_in 55 (by decide +kernel) (by decide +kernel)) (z_in2 89 (by decide +kernel) (by decide +kernel)) rfl rfl rfl ⟨by decide, by decide, by decide +kernel⟩ ⟨by decide, by decide⟩
  · exact z_PV_I (l := l) (own := RX7) (cc := cX7_init) (nL := 2) (R := rX7_init) (u := 27) (d := 8) (n := 0) (ctJx4a65c_init_da8c8 l) wJx4a65c_init_da8c8 (by intro w hw; simp only [List.mem_cons, List.not_mem_nil, or_false] at hw; rcases hw with rfl | rfl | rfl; exact z_in 215 (by decide +kernel) (by decide +kernel); exact z_in 96 (by decide +kernel) (by decide +kernel); exact z_in 58 (by decide +kernel) (by decide +kernel)) rfl rfl rfl ⟨by decide, by decide, by decide +kernel⟩ ⟨by decide, by decide⟩
  · exact z_PV_IN (l := l) (own := RX7) (cc := cX7_init) (nL := 2) (R := rX7_init) (u := 42) (d := 3) (n := 0) (host := "BoomSorters") (ctX3_init l) wX3_init (by intro w hw; simp only [List.mem_cons, List.not_mem_nil, or_false] at hw; rcases hw with rfl | rfl; exact z_in 218 (by decide +kernel) (by decide +kernel); exact z_in 61 (by decide +kernel) (by decide +kernel)) (z_in2 217 (by decide +kernel) (by decide +kernel)) rfl rfl rfl ⟨by decide, by decide, by decide +kernel⟩ ⟨by decide, by decide⟩
set_option maxHeartbeats 4000000 in
set_option maxRecDepth 20000 in
theorem gX7_init : ∀ (as : List Value) (σ : bS) (Kp : Option Value → bS → Prop), pX7_init as σ Kp → ∀ K : zK, z_Cl tX7_init clX7_init (fun v σ c n => Kp v σ ∧ c ≤ 99 ∧ n ≤ 1662) 99 1662 0 K → K 0 (lv_args 0 as) [] σ 0 0 := by
  intro as σ Kp hp K hK
  unfold pX7_init at hp
  split at hp
  · rename_i y
    obtain ⟨b, rfl, h1, hz, henv, he0, hp⟩ := hp
    obtain ⟨s, hs⟩ := he0.1
    have hsb : s < b := by
      have := henv.lt hs (by decide)
      have : s ≠ b := v_ne hs h1 (by decide)
      omega
    have loop : ∀ (s1 s2 s3 s4 m k : Nat) (σ2 : bS) (c n : Nat), k + m = 4 → c = 95 + k → n = 1646 + 4 * k → w_pre σ2 b s1 s2 s3 s4 → w_ownk σ2 b k → v_env σ2 → v_ex (fun u => u = b) (b + 1) σ σ2 → z_z σ2 = b + 96 + k → K 68 [(0, .ref b), (1, .int (nI k))] [] σ2 c n := by
      intro s1 s2 s3 s4 m
      induction m with
      | zero =>
        intro k σ2 c n hk hc hn hpre how he hx hz2
        obtain rfl : k = 4 := by omega
        subst hc hn
        obtain ⟨t, p1, p2, p3, p4, p5, p6, y1, y2, y3, y4⟩ := id hpre
        obtain ⟨t1, t2, t3, t4, t5, t6, t7, t8⟩ := id t
        refine hK.1 [(68, [0, 1])] 60 _ _ _ _ _ _ ?_
        simp only [ze_iconst, ze_bipush, ze_sipush, ze_lconst, ze_dconst, ze_aconst_null, ze_ldc, ze_ldc_w, ze_ldc2_w, ze_ldc2_w1, ze_iload, ze_iload_n, ze_lload, ze_lload_n, ze_aload, ze_aload_n, ze_istore, ze_istore_n, ze_lstore, ze_lstore_n, ze_astore, ze_astore_n, ze_iinc, ze_iadd, ze_isub, ze_imul, ze_iand, ze_ior, ze_ixor, ze_ishl, ze_ishr, ze_idiv, ze_irem, ze_ineg, ze_ladd, ze_lsub, ze_lmul, ze_ldiv, ze_lcmp, ze_i2l, ze_l2i, ze_i2d, ze_ddiv, ze_dmul, ze_dsub, ze_dcmp, ze_dup, ze_pop, ze_dup_x1, ze_dup2, ze_goto, ze_ifnull, ze_ifnonnull, ze_getfield, ze_getfield1, ze_putfield, ze_putfield1, ze_iaload, ze_aaload, ze_iastore, ze_aastore, ze_getstatic, ze_arraylength, ze_new, ze_newarray, ze_anewarray, ze_checkcast, ze_invokevirtual, ze_invokespecial, ze_invokestatic, ze_ireturn, ze_lreturn, ze_dreturn, ze_areturn, ze_return_, ze_tableswitch, ze_ifCond_eq, ze_ifCond_ne, ze_ifCond_lt, ze_ifCond_ge, ze_ifCond_gt, ze_ifCond_le, ze_if_icmp_eq, ze_if_icmp_ne, ze_if_icmp_lt, ze_if_icmp_ge, ze_if_icmp_gt, ze_if_icmp_le, ze_acmp_eq, ze_acmp_ne, zs_ldi, zs_ldl, zs_lda, zs_inc, zs_sw0, zs_sw, zs_cb, zs_cb0, zs_inv0, zs_inv1, zs_inv2, zs_inv3, zs_inv4, zs_inv5, zs_inv6, zs_gl, zs_rm0, zs_rm, zs_rm20, zs_rm2, zs_p0, zs_p00, zs_gl0, zs_pk0, zs_pk, zs_fc, zs_ck0, zs_ck, zs_cat0, zs_cat, zs_ci, zs_cl, zs_cd, zs_cr, zs_cn, zs_cf, zs_cu, zs_cu0, zs_wp, zs_wp0, z_rf_ref, z_rf_null, z_rf_rf, z_o_ref, z_o_null, z_o_rf, va_rf_some, va_rf_none, zc_om1, zc_o0, zc_o1, zc_o2, zc_o3, zc_o4, zc_o5, zc_o6, zc_o7, zc_o8, zc_om4, zc_bm2, zc_b6, zc_b7, zc_b8, zc_b9, zc_b10, zc_b11, zc_b12, zc_b14, zc_b15, zc_b16, zc_b17, zc_b18, zc_b20, zc_b21, zc_b22, zc_b24, zc_b30, zc_b40, zc_b41, zc_b60, zc_b63, zc_b64, zc_b66, zc_b76, zc_nI, if_pos, if_neg, reduceIte, Nat.reduceAdd, Nat.reduceMul, Nat.reduceSub, Nat.reduceEqDiff, Nat.reduceLeDiff, Nat.reduceBEq, and_true, true_and, or_true, true_or, or_false, false_or, and_false, false_and, and_self, or_self, implies_true, forall_const, not_true_eq_false, not_false_eq_true, reduceCtorEq, Nat.zero_add, Nat.add_zero, Nat.add_eq_right, Nat.add_right_cancel_iff, Nat.succ_ne_zero, Nat.le_refl, true_implies, false_implies, Option.some.injEq, zc_f0, zc_f1, zc_f2, zc_f3, zs_args, zs_args0, List.length_cons, List.length_nil, z_t_wi, z_i_wi, z_r_wi, z_n_wi, z_a_wi, z_q_wi, z_z_wi, z_t_wr, z_i_wr, z_r_wr, z_n_wr, z_a_wr, z_q_wr, z_z_wr, z_t_wa, z_i_wa, z_r_wa, z_n_wa, z_a_wa, z_q_wa, z_z_wa, z_t_wq, z_i_wq, z_r_wq, z_n_wq, z_a_wq, z_q_wq, z_z_wq, z_t_nw, z_i_nw, z_r_nw, z_n_nw, z_a_nw, z_q_nw, z_z_nw, z_t_uq, z_i_uq, z_r_uq, z_n_uq, z_a_uq, z_z_uq, z_q_uq, ↓zs_PV, zs_rcv, hX7_init_0, hX7_init_1, hX7_init_4, hX7_init_5, hX7_init_8, hX7_init_9, hX7_init_12, hX7_init_15, hX7_init_16, hX7_init_19, hX7_init_20, hX7_init_23, hX7_init_26, hX7_init_27, hX7_init_28, hX7_init_31, hX7_init_34, hX7_init_35, hX7_init_38, hX7_init_39, hX7_init_42, hX7_init_45, hX7_init_46, hX7_init_49, hX7_init_50, hX7_init_53, hX7_init_56, hX7_init_57, hX7_init_58, hX7_init_61, hX7_init_62, hX7_init_63, hX7_init_66, hX7_init_67, hX7_init_68, hX7_init_69, hX7_init_70, hX7_init_73, hX7_init_74, hX7_init_77, hX7_init_78, hX7_init_81, hX7_init_82, hX7_init_85, hX7_init_86, hX7_init_89, hX7_init_90, hX7_init_93, hX7_init_96, clX7_init, t1, t4, p1, p2]
        have hu : ∀ x, z_t σ2 x = 32 → x < b := fun x hx32 => by
          have := he.2 x s hx32 ((hx.2 s (by omega)).1.trans hs)
          omega
        have he02 : v_e0 σ2 := by
          refine ⟨⟨s, (hx.2 s (by omega)).1.trans hs⟩, fun x hx32 => ?_⟩
          have e := he.2 x s hx32 ((hx.2 s (by omega)).1.trans hs)
          rw [e, (hx.2 s (by omega)).2.1]
          exact he0.2 s hs
        refine ⟨by unfold z_ra; decide, fun _ => ?_, fun z => absurd (nI_le (Nat.le_refl 4) (by decide)) z⟩
        refine hp σ2 (fun i => if i = 0 then s1 else if i = 1 then s2 else if i = 2 then s3 else s4) ⟨⟨t, ⟨p1, p2, fun j hj => ?_⟩, ⟨p3, by decide, fun j hj => absurd hj (Nat.not_lt_zero j)⟩, ⟨p4, by decide, fun j hj => absurd hj (Nat.not_lt_zero j)⟩⟩, p5, ⟨m_new, p6, Nat.le_refl _, fun i hi => absurd hi (Nat.not_lt_zero i), fun i hi => absurd hi (Nat.not_lt_zero i), fun i _ hi => absurd hi (Nat.not_lt_zero i)⟩, ⟨fun i hi => Or.inl ?_, fun i j hi hj hij h26 => ?_⟩, he, he02⟩ hx (by omega)
        · exact how j hj
        · show z_t σ2 (if i = 0 then s1 else if i = 1 then s2 else if i = 2 then s3 else s4) = 32 ∧ (if i = 0 then s1 else if i = 1 then s2 else if i = 2 then s3 else s4) < b
          split
          · exact ⟨y1, hu _ y1⟩
          · split
            · exact ⟨y2, hu _ y2⟩
            · split
              · exact ⟨y3, hu _ y3⟩
              · exact ⟨y4, hu _ y4⟩
        · exfalso
          have h26' : z_t σ2 (if i = 0 then s1 else if i = 1 then s2 else if i = 2 then s3 else s4) = 26 := h26
          split at h26'
          · rw [y1] at h26'; exact absurd h26' (by decide)
          · split at h26'
            · rw [y2] at h26'; exact absurd h26' (by decide)
            · split at h26'
              · rw [y3] at h26'; exact absurd h26' (by decide)
              · rw [y4] at h26'; exact absurd h26' (by decide)
      | succ m ih =>
        intro k σ2 c n hk hc hn hpre how he hx hz2
        have hk4 : k < 4 := by omega
        subst hc hn
        obtain ⟨t, p1, p2, p3, p4, p5, p6, y1, y2, y3, y4⟩ := id hpre
        obtain ⟨t1, t2, t3, t4, t5, t6, t7, t8⟩ := id t
        have hcl : (nI k).toNatClampNeg = k := nI_clamp (by omega)
        have e1 : (b = b + 96 + k) = False := eq_false (by omega)
        have e2 : (b + 93 = b + 96 + k) = False := eq_false (by omega)
        refine hK.1 [(68, [0, 1])] 60 _ _ _ _ _ _ ?_
        simp only [ze_iconst, ze_bipush, ze_sipush, ze_lconst, ze_dconst, ze_aconst_null, ze_ldc, ze_ldc_w, ze_ldc2_w, ze_ldc2_w1, ze_iload, ze_iload_n, ze_lload, ze_lload_n, ze_aload, ze_aload_n, ze_istore, ze_istore_n, ze_lstore, ze_lstore_n, ze_astore, ze_astore_n, ze_iinc, ze_iadd, ze_isub, ze_imul, ze_iand, ze_ior, ze_ixor, ze_ishl, ze_ishr, ze_idiv, ze_irem, ze_ineg, ze_ladd, ze_lsub, ze_lmul, ze_ldiv, ze_lcmp, ze_i2l, ze_l2i, ze_i2d, ze_ddiv, ze_dmul, ze_dsub, ze_dcmp, ze_dup, ze_pop, ze_dup_x1, ze_dup2, ze_goto, ze_ifnull, ze_ifnonnull, ze_getfield, ze_getfield1, ze_putfield, ze_putfield1, ze_iaload, ze_aaload, ze_iastore, ze_aastore, ze_getstatic, ze_arraylength, ze_new, ze_newarray, ze_anewarray, ze_checkcast, ze_invokevirtual, ze_invokespecial, ze_invokestatic, ze_ireturn, ze_lreturn, ze_dreturn, ze_areturn, ze_return_, ze_tableswitch, ze_ifCond_eq, ze_ifCond_ne, ze_ifCond_lt, ze_ifCond_ge, ze_ifCond_gt, ze_ifCond_le, ze_if_icmp_eq, ze_if_icmp_ne, ze_if_icmp_lt, ze_if_icmp_ge, ze_if_icmp_gt, ze_if_icmp_le, ze_acmp_eq, ze_acmp_ne, zs_ldi, zs_ldl, zs_lda, zs_inc, zs_sw0, zs_sw, zs_cb, zs_cb0, zs_inv0, zs_inv1, zs_inv2, zs_inv3, zs_inv4, zs_inv5, zs_inv6, zs_gl, zs_rm0, zs_rm, zs_rm20, zs_rm2, zs_p0, zs_p00, zs_gl0, zs_pk0, zs_pk, zs_fc, zs_ck0, zs_ck, zs_cat0, zs_cat, zs_ci, zs_cl, zs_cd, zs_cr, zs_cn, zs_cf, zs_cu, zs_cu0, zs_wp, zs_wp0, z_rf_ref, z_rf_null, z_rf_rf, z_o_ref, z_o_null, z_o_rf, va_rf_some, va_rf_none, zc_om1, zc_o0, zc_o1, zc_o2, zc_o3, zc_o4, zc_o5, zc_o6, zc_o7, zc_o8, zc_om4, zc_bm2, zc_b6, zc_b7, zc_b8, zc_b9, zc_b10, zc_b11, zc_b12, zc_b14, zc_b15, zc_b16, zc_b17, zc_b18, zc_b20, zc_b21, zc_b22, zc_b24, zc_b30, zc_b40, zc_b41, zc_b60, zc_b63, zc_b64, zc_b66, zc_b76, zc_nI, if_pos, if_neg, reduceIte, Nat.reduceAdd, Nat.reduceMul, Nat.reduceSub, Nat.reduceEqDiff, Nat.reduceLeDiff, Nat.reduceBEq, and_true, true_and, or_true, true_or, or_false, false_or, and_false, false_and, and_self, or_self, implies_true, forall_const, not_true_eq_false, not_false_eq_true, reduceCtorEq, Nat.zero_add, Nat.add_zero, Nat.add_eq_right, Nat.add_right_cancel_iff, Nat.succ_ne_zero, Nat.le_refl, true_implies, false_implies, Option.some.injEq, zc_f0, zc_f1, zc_f2, zc_f3, zs_args, zs_args0, List.length_cons, List.length_nil, z_t_wi, z_i_wi, z_r_wi, z_n_wi, z_a_wi, z_q_wi, z_z_wi, z_t_wr, z_i_wr, z_r_wr, z_n_wr, z_a_wr, z_q_wr, z_z_wr, z_t_wa, z_i_wa, z_r_wa, z_n_wa, z_a_wa, z_q_wa, z_z_wa, z_t_wq, z_i_wq, z_r_wq, z_n_wq, z_a_wq, z_q_wq, z_z_wq, z_t_nw, z_i_nw, z_r_nw, z_n_nw, z_a_nw, z_q_nw, z_z_nw, z_t_uq, z_i_uq, z_r_uq, z_n_uq, z_a_uq, z_z_uq, z_q_uq, ↓zs_PV, zs_rcv, hX7_init_0, hX7_init_1, hX7_init_4, hX7_init_5, hX7_init_8, hX7_init_9, hX7_init_12, hX7_init_15, hX7_init_16, hX7_init_19, hX7_init_20, hX7_init_23, hX7_init_26, hX7_init_27, hX7_init_28, hX7_init_31, hX7_init_34, hX7_init_35, hX7_init_38, hX7_init_39, hX7_init_42, hX7_init_45, hX7_init_46, hX7_init_49, hX7_init_50, hX7_init_53, hX7_init_56, hX7_init_57, hX7_init_58, hX7_init_61, hX7_init_62, hX7_init_63, hX7_init_66, hX7_init_67, hX7_init_68, hX7_init_69, hX7_init_70, hX7_init_73, hX7_init_74, hX7_init_77, hX7_init_78, hX7_init_81, hX7_init_82, hX7_init_85, hX7_init_86, hX7_init_89, hX7_init_90, hX7_init_93, hX7_init_96, clX7_init, ↓pX3_init, hz2, t1, t4, p1, p2, hcl, e1, e2]
        have hx9 : v_ex (fun u => u = b + 93) (z_z σ2) σ2 (z_wq (z_wi (z_wi (z_wi (z_wi (z_nw σ2 4 0) 3 0 (b + 96 + k) 0) 3 1 (b + 96 + k) 0) 3 2 (b + 96 + k) 0) 3 3 (b + 96 + k) 0) (b + 93) k (some (b + 96 + k))) := by
          have w : ∀ (s9 : bS) (c f : Nat) (x : Int32), v_ex (fun u => u = b + 93) (z_z σ2) σ2 s9 → v_ex (fun u => u = b + 93) (z_z σ2) σ2 (z_wi s9 c f (b + 96 + k) x) := fun s9 c f x h => h.tr (v_ex.wi (Or.inr (by omega)))
          exact (w _ _ _ _ (w _ _ _ _ (w _ _ _ _ (w _ _ _ _ (v_ex.nw (Nat.le_refl _)))))).tr (v_ex.wq (Or.inl rfl))
        have hen9 : v_env (z_wq (z_wi (z_wi (z_wi (z_wi (z_nw σ2 4 0) 3 0 (b + 96 + k) 0) 3 1 (b + 96 + k) 0) 3 2 (b + 96 + k) 0) 3 3 (b + 96 + k) 0) (b + 93) k (some (b + 96 + k))) := by
          have w : ∀ (s9 : bS) (c f a : Nat) (x : Int32), v_env s9 → v_env (z_wi s9 c f a x) := fun s9 c f a x h => h.same rfl rfl
          have w2 : ∀ (s9 : bS) (a j : Nat) (x : Option Nat), v_env s9 → v_env (z_wq s9 a j x) := fun s9 a j x h => h.same rfl rfl
          exact w2 _ _ _ _ (w _ _ _ _ _ (w _ _ _ _ _ (w _ _ _ _ _ (w _ _ _ _ _ (he.nw (by decide))))))
        have hz9 : z_z (z_wq (z_wi (z_wi (z_wi (z_wi (z_nw σ2 4 0) 3 0 (b + 96 + k) 0) 3 1 (b + 96 + k) 0) 3 2 (b + 96 + k) 0) 3 3 (b + 96 + k) 0) (b + 93) k (some (b + 96 + k))) = b + 96 + (k + 1) := by
          simp only [z_t_wi, z_i_wi, z_r_wi, z_n_wi, z_a_wi, z_q_wi, z_z_wi, z_t_wr, z_i_wr, z_r_wr, z_n_wr, z_a_wr, z_q_wr, z_z_wr, z_t_wa, z_i_wa, z_r_wa, z_n_wa, z_a_wa, z_q_wa, z_z_wa, z_t_wq, z_i_wq, z_r_wq, z_n_wq, z_a_wq, z_q_wq, z_z_wq, z_t_nw, z_i_nw, z_r_nw, z_n_nw, z_a_nw, z_q_nw, z_z_nw, z_t_uq, z_i_uq, z_r_uq, z_n_uq, z_a_uq, z_z_uq, z_q_uq, hz2]
          omega
        have how9 : w_ownk (z_wq (z_wi (z_wi (z_wi (z_wi (z_nw σ2 4 0) 3 0 (b + 96 + k) 0) 3 1 (b + 96 + k) 0) 3 2 (b + 96 + k) 0) 3 3 (b + 96 + k) 0) (b + 93) k (some (b + 96 + k))) b (k + 1) := by
          intro j hj
          by_cases e : j = k
          · subst e
            refine ⟨?_, ?_, fun f hf => ?_⟩
            · simp only [z_t_wi, z_i_wi, z_r_wi, z_n_wi, z_a_wi, z_q_wi, z_z_wi, z_t_wr, z_i_wr, z_r_wr, z_n_wr, z_a_wr, z_q_wr, z_z_wr, z_t_wa, z_i_wa, z_r_wa, z_n_wa, z_a_wa, z_q_wa, z_z_wa, z_t_wq, z_i_wq, z_r_wq, z_n_wq, z_a_wq, z_q_wq, z_z_wq, z_t_nw, z_i_nw, z_r_nw, z_n_nw, z_a_nw, z_q_nw, z_z_nw, z_t_uq, z_i_uq, z_r_uq, z_n_uq, z_a_uq, z_z_uq, z_q_uq]
              simp
            · simp only [z_t_wi, z_i_wi, z_r_wi, z_n_wi, z_a_wi, z_q_wi, z_z_wi, z_t_wr, z_i_wr, z_r_wr, z_n_wr, z_a_wr, z_q_wr, z_z_wr, z_t_wa, z_i_wa, z_r_wa, z_n_wa, z_a_wa, z_q_wa, z_z_wa, z_t_wq, z_i_wq, z_r_wq, z_n_wq, z_a_wq, z_q_wq, z_z_wq, z_t_nw, z_i_nw, z_r_nw, z_n_nw, z_a_nw, z_q_nw, z_z_nw, z_t_uq, z_i_uq, z_r_uq, z_n_uq, z_a_uq, z_z_uq, z_q_uq, hz2]
              simp
            · simp only [z_t_wi, z_i_wi, z_r_wi, z_n_wi, z_a_wi, z_q_wi, z_z_wi, z_t_wr, z_i_wr, z_r_wr, z_n_wr, z_a_wr, z_q_wr, z_z_wr, z_t_wa, z_i_wa, z_r_wa, z_n_wa, z_a_wa, z_q_wa, z_z_wa, z_t_wq, z_i_wq, z_r_wq, z_n_wq, z_a_wq, z_q_wq, z_z_wq, z_t_nw, z_i_nw, z_r_nw, z_n_nw, z_a_nw, z_q_nw, z_z_nw, z_t_uq, z_i_uq, z_r_uq, z_n_uq, z_a_uq, z_z_uq, z_q_uq]
              match f, hf with
              | 0, _ => simp
              | 1, _ => simp
              | 2, _ => simp
              | 3, _ => simp
              | n + 4, h => omega
          · obtain ⟨a1, a2, a3⟩ := how j (by omega)
            obtain ⟨c1, c2, c3, c4⟩ := hx9.2 (b + 96 + j) (by omega)
            have c5 := c4 (by omega)
            refine ⟨?_, c1.trans a2, fun f hf => (c5.1 3 f).trans (a3 f hf)⟩
            simp only [z_t_wi, z_i_wi, z_r_wi, z_n_wi, z_a_wi, z_q_wi, z_z_wi, z_t_wr, z_i_wr, z_r_wr, z_n_wr, z_a_wr, z_q_wr, z_z_wr, z_t_wa, z_i_wa, z_r_wa, z_n_wa, z_a_wa, z_q_wa, z_z_wa, z_t_wq, z_i_wq, z_r_wq, z_n_wq, z_a_wq, z_q_wq, z_z_wq, z_t_nw, z_i_nw, z_r_nw, z_n_nw, z_a_nw, z_q_nw, z_z_nw, z_t_uq, z_i_uq, z_r_uq, z_n_uq, z_a_uq, z_z_uq, z_q_uq, hz2]
            rw [if_neg (fun z => e z.2), if_neg (by omega)]
            exact a1
        generalize z_wq (z_wi (z_wi (z_wi (z_wi (z_nw σ2 4 0) 3 0 (b + 96 + k) 0) 3 1 (b + 96 + k) 0) 3 2 (b + 96 + k) 0) 3 3 (b + 96 + k) 0) (b + 93) k (some (b + 96 + k)) = σ9 at hx9 hen9 hz9 how9 ⊢
        refine ⟨by unfold z_ra; decide, fun z => absurd z (nI_ge hk4 (by decide)), fun _ => ⟨by omega, by omega, by omega, by omega, by decide, vp_in_nI hk4 (by decide), ?_⟩⟩
        rw [nI_1]
        exact ih (k + 1) σ9 _ _ (by omega) (by omega) (by omega) (hpre.ex he hx9) how9 hen9 (hx.tr (hx9.mono (fun u hu e => by omega) (by omega))) hz9
    have f1 : (b = b + 1) = False := eq_false (by omega)
    refine hK.1 [(68, [0, 1])] 90 _ _ _ _ _ _ ?_
    simp only [ze_iconst, ze_bipush, ze_sipush, ze_lconst, ze_dconst, ze_aconst_null, ze_ldc, ze_ldc_w, ze_ldc2_w, ze_ldc2_w1, ze_iload, ze_iload_n, ze_lload, ze_lload_n, ze_aload, ze_aload_n, ze_istore, ze_istore_n, ze_lstore, ze_lstore_n, ze_astore, ze_astore_n, ze_iinc, ze_iadd, ze_isub, ze_imul, ze_iand, ze_ior, ze_ixor, ze_ishl, ze_ishr, ze_idiv, ze_irem, ze_ineg, ze_ladd, ze_lsub, ze_lmul, ze_ldiv, ze_lcmp, ze_i2l, ze_l2i, ze_i2d, ze_ddiv, ze_dmul, ze_dsub, ze_dcmp, ze_dup, ze_pop, ze_dup_x1, ze_dup2, ze_goto, ze_ifnull, ze_ifnonnull, ze_getfield, ze_getfield1, ze_putfield, ze_putfield1, ze_iaload, ze_aaload, ze_iastore, ze_aastore, ze_getstatic, ze_arraylength, ze_new, ze_newarray, ze_anewarray, ze_checkcast, ze_invokevirtual, ze_invokespecial, ze_invokestatic, ze_ireturn, ze_lreturn, ze_dreturn, ze_areturn, ze_return_, ze_tableswitch, ze_ifCond_eq, ze_ifCond_ne, ze_ifCond_lt, ze_ifCond_ge, ze_ifCond_gt, ze_ifCond_le, ze_if_icmp_eq, ze_if_icmp_ne, ze_if_icmp_lt, ze_if_icmp_ge, ze_if_icmp_gt, ze_if_icmp_le, ze_acmp_eq, ze_acmp_ne, zs_ldi, zs_ldl, zs_lda, zs_inc, zs_sw0, zs_sw, zs_cb, zs_cb0, zs_inv0, zs_inv1, zs_inv2, zs_inv3, zs_inv4, zs_inv5, zs_inv6, zs_gl, zs_rm0, zs_rm, zs_rm20, zs_rm2, zs_p0, zs_p00, zs_gl0, zs_pk0, zs_pk, zs_fc, zs_ck0, zs_ck, zs_cat0, zs_cat, zs_ci, zs_cl, zs_cd, zs_cr, zs_cn, zs_cf, zs_cu, zs_cu0, zs_wp, zs_wp0, z_rf_ref, z_rf_null, z_rf_rf, z_o_ref, z_o_null, z_o_rf, va_rf_some, va_rf_none, zc_om1, zc_o0, zc_o1, zc_o2, zc_o3, zc_o4, zc_o5, zc_o6, zc_o7, zc_o8, zc_om4, zc_bm2, zc_b6, zc_b7, zc_b8, zc_b9, zc_b10, zc_b11, zc_b12, zc_b14, zc_b15, zc_b16, zc_b17, zc_b18, zc_b20, zc_b21, zc_b22, zc_b24, zc_b30, zc_b40, zc_b41, zc_b60, zc_b63, zc_b64, zc_b66, zc_b76, zc_nI, if_pos, if_neg, reduceIte, Nat.reduceAdd, Nat.reduceMul, Nat.reduceSub, Nat.reduceEqDiff, Nat.reduceLeDiff, Nat.reduceBEq, and_true, true_and, or_true, true_or, or_false, false_or, and_false, false_and, and_self, or_self, implies_true, forall_const, not_true_eq_false, not_false_eq_true, reduceCtorEq, Nat.zero_add, Nat.add_zero, Nat.add_eq_right, Nat.add_right_cancel_iff, Nat.succ_ne_zero, Nat.le_refl, true_implies, false_implies, Option.some.injEq, zc_f0, zc_f1, zc_f2, zc_f3, zs_args, zs_args0, List.length_cons, List.length_nil, z_t_wi, z_i_wi, z_r_wi, z_n_wi, z_a_wi, z_q_wi, z_z_wi, z_t_wr, z_i_wr, z_r_wr, z_n_wr, z_a_wr, z_q_wr, z_z_wr, z_t_wa, z_i_wa, z_r_wa, z_n_wa, z_a_wa, z_q_wa, z_z_wa, z_t_wq, z_i_wq, z_r_wq, z_n_wq, z_a_wq, z_q_wq, z_z_wq, z_t_nw, z_i_nw, z_r_nw, z_n_nw, z_a_nw, z_q_nw, z_z_nw, z_t_uq, z_i_uq, z_r_uq, z_n_uq, z_a_uq, z_z_uq, z_q_uq, ↓zs_PV, zs_rcv, hX7_init_0, hX7_init_1, hX7_init_4, hX7_init_5, hX7_init_8, hX7_init_9, hX7_init_12, hX7_init_15, hX7_init_16, hX7_init_19, hX7_init_20, hX7_init_23, hX7_init_26, hX7_init_27, hX7_init_28, hX7_init_31, hX7_init_34, hX7_init_35, hX7_init_38, hX7_init_39, hX7_init_42, hX7_init_45, hX7_init_46, hX7_init_49, hX7_init_50, hX7_init_53, hX7_init_56, hX7_init_57, hX7_init_58, hX7_init_61, hX7_init_62, hX7_init_63, hX7_init_66, hX7_init_67, hX7_init_68, hX7_init_69, hX7_init_70, hX7_init_73, hX7_init_74, hX7_init_77, hX7_init_78, hX7_init_81, hX7_init_82, hX7_init_85, hX7_init_86, hX7_init_89, hX7_init_90, hX7_init_93, hX7_init_96, clX7_init, ↓p_objinit, h1, hz, f1]
    refine ⟨b + 1, rfl, by rw [z_t_nw, if_pos hz.symm], by rw [z_z_nw, hz], henv.nw (by decide), fun σ2 s1 hr1 hs1 henv2 hx2 hz2 => ?_⟩
    replace hz2 : z_z σ2 = b + 47 := hz2
    have hb2 : z_t σ2 b = 8 := (hx2.2 b (by omega)).1.trans (by rw [z_t_nw, if_neg (by omega)]; exact h1)
    have f2 : (b = b + 47) = False := eq_false (by omega)
    simp only [ze_iconst, ze_bipush, ze_sipush, ze_lconst, ze_dconst, ze_aconst_null, ze_ldc, ze_ldc_w, ze_ldc2_w, ze_ldc2_w1, ze_iload, ze_iload_n, ze_lload, ze_lload_n, ze_aload, ze_aload_n, ze_istore, ze_istore_n, ze_lstore, ze_lstore_n, ze_astore, ze_astore_n, ze_iinc, ze_iadd, ze_isub, ze_imul, ze_iand, ze_ior, ze_ixor, ze_ishl, ze_ishr, ze_idiv, ze_irem, ze_ineg, ze_ladd, ze_lsub, ze_lmul, ze_ldiv, ze_lcmp, ze_i2l, ze_l2i, ze_i2d, ze_ddiv, ze_dmul, ze_dsub, ze_dcmp, ze_dup, ze_pop, ze_dup_x1, ze_dup2, ze_goto, ze_ifnull, ze_ifnonnull, ze_getfield, ze_getfield1, ze_putfield, ze_putfield1, ze_iaload, ze_aaload, ze_iastore, ze_aastore, ze_getstatic, ze_arraylength, ze_new, ze_newarray, ze_anewarray, ze_checkcast, ze_invokevirtual, ze_invokespecial, ze_invokestatic, ze_ireturn, ze_lreturn, ze_dreturn, ze_areturn, ze_return_, ze_tableswitch, ze_ifCond_eq, ze_ifCond_ne, ze_ifCond_lt, ze_ifCond_ge, ze_ifCond_gt, ze_ifCond_le, ze_if_icmp_eq, ze_if_icmp_ne, ze_if_icmp_lt, ze_if_icmp_ge, ze_if_icmp_gt, ze_if_icmp_le, ze_acmp_eq, ze_acmp_ne, zs_ldi, zs_ldl, zs_lda, zs_inc, zs_sw0, zs_sw, zs_cb, zs_cb0, zs_inv0, zs_inv1, zs_inv2, zs_inv3, zs_inv4, zs_inv5, zs_inv6, zs_gl, zs_rm0, zs_rm, zs_rm20, zs_rm2, zs_p0, zs_p00, zs_gl0, zs_pk0, zs_pk, zs_fc, zs_ck0, zs_ck, zs_cat0, zs_cat, zs_ci, zs_cl, zs_cd, zs_cr, zs_cn, zs_cf, zs_cu, zs_cu0, zs_wp, zs_wp0, z_rf_ref, z_rf_null, z_rf_rf, z_o_ref, z_o_null, z_o_rf, va_rf_some, va_rf_none, zc_om1, zc_o0, zc_o1, zc_o2, zc_o3, zc_o4, zc_o5, zc_o6, zc_o7, zc_o8, zc_om4, zc_bm2, zc_b6, zc_b7, zc_b8, zc_b9, zc_b10, zc_b11, zc_b12, zc_b14, zc_b15, zc_b16, zc_b17, zc_b18, zc_b20, zc_b21, zc_b22, zc_b24, zc_b30, zc_b40, zc_b41, zc_b60, zc_b63, zc_b64, zc_b66, zc_b76, zc_nI, if_pos, if_neg, reduceIte, Nat.reduceAdd, Nat.reduceMul, Nat.reduceSub, Nat.reduceEqDiff, Nat.reduceLeDiff, Nat.reduceBEq, and_true, true_and, or_true, true_or, or_false, false_or, and_false, false_and, and_self, or_self, implies_true, forall_const, not_true_eq_false, not_false_eq_true, reduceCtorEq, Nat.zero_add, Nat.add_zero, Nat.add_eq_right, Nat.add_right_cancel_iff, Nat.succ_ne_zero, Nat.le_refl, true_implies, false_implies, Option.some.injEq, zc_f0, zc_f1, zc_f2, zc_f3, zs_args, zs_args0, List.length_cons, List.length_nil, z_t_wi, z_i_wi, z_r_wi, z_n_wi, z_a_wi, z_q_wi, z_z_wi, z_t_wr, z_i_wr, z_r_wr, z_n_wr, z_a_wr, z_q_wr, z_z_wr, z_t_wa, z_i_wa, z_r_wa, z_n_wa, z_a_wa, z_q_wa, z_z_wa, z_t_wq, z_i_wq, z_r_wq, z_n_wq, z_a_wq, z_q_wq, z_z_wq, z_t_nw, z_i_nw, z_r_nw, z_n_nw, z_a_nw, z_q_nw, z_z_nw, z_t_uq, z_i_uq, z_r_uq, z_n_uq, z_a_uq, z_z_uq, z_q_uq, ↓zs_PV, zs_rcv, hX7_init_0, hX7_init_1, hX7_init_4, hX7_init_5, hX7_init_8, hX7_init_9, hX7_init_12, hX7_init_15, hX7_init_16, hX7_init_19, hX7_init_20, hX7_init_23, hX7_init_26, hX7_init_27, hX7_init_28, hX7_init_31, hX7_init_34, hX7_init_35, hX7_init_38, hX7_init_39, hX7_init_42, hX7_init_45, hX7_init_46, hX7_init_49, hX7_init_50, hX7_init_53, hX7_init_56, hX7_init_57, hX7_init_58, hX7_init_61, hX7_init_62, hX7_init_63, hX7_init_66, hX7_init_67, hX7_init_68, hX7_init_69, hX7_init_70, hX7_init_73, hX7_init_74, hX7_init_77, hX7_init_78, hX7_init_81, hX7_init_82, hX7_init_85, hX7_init_86, hX7_init_89, hX7_init_90, hX7_init_93, hX7_init_96, clX7_init, hb2, hz2, f2]
    refine ⟨b + 47, rfl, by rw [z_t_nw, if_pos (by rw [z_z_wr]; exact hz2.symm)], by rw [z_z_nw, z_z_wr, hz2], (henv2.same (σ' := z_wr σ2 7 0 b (some (b + 1))) rfl rfl).nw (by decide), fun σ3 s2 hr2 hs2 henv3 hx3 hz3 => ?_⟩
    replace hz3 : z_z σ3 = b + 93 := hz3
    have hxa : v_ex (fun u => u = b) (b + 47) σ2 σ3 := ((v_ex.wr (P := fun u => u = b) (B := b + 47) (Or.inl rfl)).tr (v_ex.nw (by rw [z_z_wr]; omega))).tr (hx3.mono (fun u hu e => by omega) (by omega))
    have hb3 : z_t σ3 b = 8 := (hxa.2 b (by omega)).1.trans hb2
    have hb30 : z_r σ3 7 0 b = some (b + 1) := by
      have := ((hx3.2 b (by omega)).2.2.2 (by omega)).2.1 7 0
      rw [this, z_r_nw, if_neg (by rw [z_z_wr]; omega), z_r_wr, if_pos ⟨rfl, rfl, rfl⟩]
    have f3 : (b = b + 93) = False := eq_false (by omega)
    have f4 : (b = b + 93 + 1) = False := eq_false (by omega)
    have f5 : (b = b + 93 + 1 + 1) = False := eq_false (by omega)
    have f6 : (b + 93 + 1 = b + 93 + 1 + 1) = False := eq_false (by omega)
    have f7 : (b + 93 = b + 93 + 1) = False := eq_false (by omega)
    have f8 : (b + 93 = b + 93 + 1 + 1) = False := eq_false (by omega)
    have f9 : (b + 93 + 1 = b + 93) = False := eq_false (by omega)
    have f10 : (b + 93 + 1 + 1 = b + 93) = False := eq_false (by omega)
    have f11 : (b + 93 + 1 + 1 = b + 93 + 1) = False := eq_false (by omega)
    have f12 : (b + 93 + 1 = b) = False := eq_false (by omega)
    have f13 : (b + 93 + 1 + 1 = b) = False := eq_false (by omega)
    have f14 : (b + 93 = b) = False := eq_false (by omega)
    simp only [ze_iconst, ze_bipush, ze_sipush, ze_lconst, ze_dconst, ze_aconst_null, ze_ldc, ze_ldc_w, ze_ldc2_w, ze_ldc2_w1, ze_iload, ze_iload_n, ze_lload, ze_lload_n, ze_aload, ze_aload_n, ze_istore, ze_istore_n, ze_lstore, ze_lstore_n, ze_astore, ze_astore_n, ze_iinc, ze_iadd, ze_isub, ze_imul, ze_iand, ze_ior, ze_ixor, ze_ishl, ze_ishr, ze_idiv, ze_irem, ze_ineg, ze_ladd, ze_lsub, ze_lmul, ze_ldiv, ze_lcmp, ze_i2l, ze_l2i, ze_i2d, ze_ddiv, ze_dmul, ze_dsub, ze_dcmp, ze_dup, ze_pop, ze_dup_x1, ze_dup2, ze_goto, ze_ifnull, ze_ifnonnull, ze_getfield, ze_getfield1, ze_putfield, ze_putfield1, ze_iaload, ze_aaload, ze_iastore, ze_aastore, ze_getstatic, ze_arraylength, ze_new, ze_newarray, ze_anewarray, ze_checkcast, ze_invokevirtual, ze_invokespecial, ze_invokestatic, ze_ireturn, ze_lreturn, ze_dreturn, ze_areturn, ze_return_, ze_tableswitch, ze_ifCond_eq, ze_ifCond_ne, ze_ifCond_lt, ze_ifCond_ge, ze_ifCond_gt, ze_ifCond_le, ze_if_icmp_eq, ze_if_icmp_ne, ze_if_icmp_lt, ze_if_icmp_ge, ze_if_icmp_gt, ze_if_icmp_le, ze_acmp_eq, ze_acmp_ne, zs_ldi, zs_ldl, zs_lda, zs_inc, zs_sw0, zs_sw, zs_cb, zs_cb0, zs_inv0, zs_inv1, zs_inv2, zs_inv3, zs_inv4, zs_inv5, zs_inv6, zs_gl, zs_rm0, zs_rm, zs_rm20, zs_rm2, zs_p0, zs_p00, zs_gl0, zs_pk0, zs_pk, zs_fc, zs_ck0, zs_ck, zs_cat0, zs_cat, zs_ci, zs_cl, zs_cd, zs_cr, zs_cn, zs_cf, zs_cu, zs_cu0, zs_wp, zs_wp0, z_rf_ref, z_rf_null, z_rf_rf, z_o_ref, z_o_null, z_o_rf, va_rf_some, va_rf_none, zc_om1, zc_o0, zc_o1, zc_o2, zc_o3, zc_o4, zc_o5, zc_o6, zc_o7, zc_o8, zc_om4, zc_bm2, zc_b6, zc_b7, zc_b8, zc_b9, zc_b10, zc_b11, zc_b12, zc_b14, zc_b15, zc_b16, zc_b17, zc_b18, zc_b20, zc_b21, zc_b22, zc_b24, zc_b30, zc_b40, zc_b41, zc_b60, zc_b63, zc_b64, zc_b66, zc_b76, zc_nI, if_pos, if_neg, reduceIte, Nat.reduceAdd, Nat.reduceMul, Nat.reduceSub, Nat.reduceEqDiff, Nat.reduceLeDiff, Nat.reduceBEq, and_true, true_and, or_true, true_or, or_false, false_or, and_false, false_and, and_self, or_self, implies_true, forall_const, not_true_eq_false, not_false_eq_true, reduceCtorEq, Nat.zero_add, Nat.add_zero, Nat.add_eq_right, Nat.add_right_cancel_iff, Nat.succ_ne_zero, Nat.le_refl, true_implies, false_implies, Option.some.injEq, zc_f0, zc_f1, zc_f2, zc_f3, zs_args, zs_args0, List.length_cons, List.length_nil, z_t_wi, z_i_wi, z_r_wi, z_n_wi, z_a_wi, z_q_wi, z_z_wi, z_t_wr, z_i_wr, z_r_wr, z_n_wr, z_a_wr, z_q_wr, z_z_wr, z_t_wa, z_i_wa, z_r_wa, z_n_wa, z_a_wa, z_q_wa, z_z_wa, z_t_wq, z_i_wq, z_r_wq, z_n_wq, z_a_wq, z_q_wq, z_z_wq, z_t_nw, z_i_nw, z_r_nw, z_n_nw, z_a_nw, z_q_nw, z_z_nw, z_t_uq, z_i_uq, z_r_uq, z_n_uq, z_a_uq, z_z_uq, z_q_uq, ↓zs_PV, zs_rcv, hX7_init_0, hX7_init_1, hX7_init_4, hX7_init_5, hX7_init_8, hX7_init_9, hX7_init_12, hX7_init_15, hX7_init_16, hX7_init_19, hX7_init_20, hX7_init_23, hX7_init_26, hX7_init_27, hX7_init_28, hX7_init_31, hX7_init_34, hX7_init_35, hX7_init_38, hX7_init_39, hX7_init_42, hX7_init_45, hX7_init_46, hX7_init_49, hX7_init_50, hX7_init_53, hX7_init_56, hX7_init_57, hX7_init_58, hX7_init_61, hX7_init_62, hX7_init_63, hX7_init_66, hX7_init_67, hX7_init_68, hX7_init_69, hX7_init_70, hX7_init_73, hX7_init_74, hX7_init_77, hX7_init_78, hX7_init_81, hX7_init_82, hX7_init_85, hX7_init_86, hX7_init_89, hX7_init_90, hX7_init_93, hX7_init_96, clX7_init, ↓pJx4a65c_init_da8c8, hb3, hz3, f3, f4, f5, f6, f7, f8, f9, f10, f11, f12, f13, f14, zc_n4]
    refine ⟨by decide, fun s3 hs3 s4 hs4 => ?_⟩
    have h32 : ∀ x, (if x = b + 93 + 1 then 9 else if x = b + 93 then 25 else z_t σ3 x) = 32 → z_t σ3 x = 32 := by
      intro x hx
      split at hx
      · exact absurd hx (by decide)
      · split at hx
        · exact absurd hx (by decide)
        · exact hx
    have hs3' := h32 s3 hs3
    have hs4' : z_t σ3 s4 = 32 := by
      split at hs4
      · exact absurd hs4 (by decide)
      · exact h32 s4 hs4
    have hxj := m_i0_ex hz3 s3 s4
    have henvj := m_i0_env henv3 b s3 s4
    obtain ⟨zj, tj, aj1, aj2, aj3, aj4, aj5, aj6, aj7, aj8⟩ := m_i0_facts hz3 hb3 hb30 s3 s4
    show K 68 [(0, .ref b), (1, .int (nI 0))] [] (m_i0 σ3 b s3 s4) 95 1646
    generalize m_i0 σ3 b s3 s4 = σj at hxj henvj zj tj aj1 aj2 aj3 aj4 aj5 aj6 aj7 aj8 ⊢
    have lt3 : ∀ x, z_t σ3 x = 32 → x < b + 93 ∧ z_t σj x = 32 := fun x hx => by
      have := henv3.lt hx (by decide)
      exact ⟨by omega, (hxj.2 x (by omega)).1.trans hx⟩
    have hxaj : v_ex (fun u => u = b) (b + 47) σ2 σj := hxa.tr (hxj.mono (fun u hu e => e) (by omega))
    have hs1lt := henv2.lt hs1 (by decide)
    refine loop s1 s2 s3 s4 4 0 σj _ _ rfl rfl rfl ⟨tj, aj1, aj2, ⟨aj3, aj4, aj5, Or.inl ⟨(lt3 _ hs3').2, rfl⟩⟩, ⟨aj6, aj7, aj8, Or.inl ⟨(lt3 _ hs4').2, rfl⟩⟩, hr1.ex (P := fun u => u = b) henv2 (by rw [hz2]; exact hxaj) (fun x x1 x2 e => by omega) (fun i hi => absurd hi (Nat.not_lt_zero i)) (v_ne hs1 hb2 (by decide)), hr2.ex (P := fun u => u = b) henv3 (by rw [hz3]; exact hxj) (fun x x1 x2 e => by omega) (fun i hi => absurd hi (Nat.not_lt_zero i)) (v_ne hs2 hb3 (by decide)), (hxaj.2 s1 (by omega)).1.trans hs1, (lt3 _ hs2).2, (lt3 _ hs3').2, (lt3 _ hs4').2⟩ (fun j hj => absurd hj (Nat.not_lt_zero j)) henvj ?_ zj
    have hx0 : v_ex (fun u => u = b) (b + 1) σ σ2 := (v_ex.nw (by omega)).tr (hx2.mono (fun u hu e => by omega) (by omega))
    exact hx0.tr (hxaj.mono (fun u hu e => e) (by omega))
  · exact hp.elim
theorem ctX7_init (l : Launch) : z_Ct l yX7_init cX7_init 2 (none) rX7_init pX7_init 99 1662 := z_Ct_of (T := tX7_init) (cl := clX7_init) (rk := 0) (by decide +kernel) true (fun h => by first | rfl | cases h) oX7_init (by first | exact Or.inl ⟨rfl, rfl⟩ | exact Or.inr (Or.inl ⟨rfl, rfl⟩) | exact Or.inr (Or.inr (Or.inl ⟨rfl, rfl⟩)) | exact Or.inr (Or.inr (Or.inr (Or.inl ⟨rfl, rfl⟩))) | exact Or.inr (Or.inr (Or.inr (Or.inr (Or.inl ⟨rfl, rfl⟩)))) | exact Or.inr (Or.inr (Or.inr (Or.inr (Or.inr ⟨rfl, Or.inl ⟨_, rfl⟩⟩)))) | exact Or.inr (Or.inr (Or.inr (Or.inr (Or.inr ⟨rfl, Or.inr ⟨_, rfl⟩⟩))))) rfl rfl (kX7_init l) (by intro as σ K h; unfold pX7_init at h; split at h <;> first | (simp [lg_sl, Value.category]; done) | exact h.elim) gX7_init
