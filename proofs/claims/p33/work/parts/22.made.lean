/-! ===== new cells: what stays ===== -/
/-- below B nothing changes but at P: ints, references, rows of references -/
def v_ex (P : Nat → Prop) (B : Nat) (σ σ' : bS) : Prop := z_z σ ≤ z_z σ' ∧ ∀ y, y < B → z_t σ' y = z_t σ y ∧ z_n σ' y = z_n σ y ∧ z_a σ' y = z_a σ y ∧ (¬ P y → (∀ c k, z_i σ' c k y = z_i σ c k y) ∧ (∀ c k, z_r σ' c k y = z_r σ c k y) ∧ z_q σ' y = z_q σ y)
/-- all that has a kind lies in the heap, and one address is the empty row -/
def v_env (σ : bS) : Prop := (∀ a, z_t σ a ≠ 0 → a < z_z σ) ∧ ∀ a b, z_t σ a = 32 → z_t σ b = 32 → a = b
section VEX
variable {P : Nat → Prop} {B : Nat} {σ σ' σ'' : bS}
theorem v_ex.rf : v_ex P B σ σ := ⟨Nat.le_refl _, fun _ _ => ⟨rfl, rfl, rfl, fun _ => ⟨fun _ _ => rfl, fun _ _ => rfl, rfl⟩⟩⟩
theorem v_ex.tr (h : v_ex P B σ σ') (h' : v_ex P B σ' σ'') : v_ex P B σ σ'' := by
  refine ⟨Nat.le_trans h.1 h'.1, fun y hy => ?_⟩
  obtain ⟨a1, a2, a3, a4⟩ := h.2 y hy
  obtain ⟨b1, b2, b3, b4⟩ := h'.2 y hy
  refine ⟨b1.trans a1, b2.trans a2, b3.trans a3, fun hp => ?_⟩
  obtain ⟨c1, c2, c3⟩ := a4 hp
  obtain ⟨d1, d2, d3⟩ := b4 hp
  exact ⟨fun c k => (d1 c k).trans (c1 c k), fun c k => (d2 c k).trans (c2 c k), d3.trans c3⟩
theorem v_ex.mono {Q : Nat → Prop} {B' : Nat} (h : v_ex P B σ σ') (hPQ : ∀ y, y < B' → P y → Q y) (hB : B' ≤ B) : v_ex Q B' σ σ' := ⟨h.1, fun y hy => by
  obtain ⟨a1, a2, a3, a4⟩ := h.2 y (by omega)
  exact ⟨a1, a2, a3, fun hq => a4 (fun hp => hq (hPQ y hy hp))⟩⟩
theorem v_ex.wi {c k a : Nat} {x : Int32} (h : P a ∨ B ≤ a) : v_ex P B σ (z_wi σ c k a x) := ⟨Nat.le_refl _, fun y hy => ⟨rfl, rfl, rfl, fun hp => ⟨fun c' k' => by
  rw [z_i_wi, if_neg]
  rintro ⟨-, -, rfl⟩
  rcases h with h | h
  · exact hp h
  · omega, fun _ _ => rfl, rfl⟩⟩⟩
theorem v_ex.wr {c k a : Nat} {x : Option Nat} (h : P a ∨ B ≤ a) : v_ex P B σ (z_wr σ c k a x) := ⟨Nat.le_refl _, fun y hy => ⟨rfl, rfl, rfl, fun hp => ⟨fun _ _ => rfl, fun c' k' => by
  rw [z_r_wr, if_neg]
  rintro ⟨-, -, rfl⟩
  rcases h with h | h
  · exact hp h
  · omega, rfl⟩⟩⟩
theorem v_ex.wq {a j : Nat} {x : Option Nat} (h : P a ∨ B ≤ a) : v_ex P B σ (z_wq σ a j x) := ⟨Nat.le_refl _, fun y hy => ⟨rfl, rfl, rfl, fun hp => ⟨fun _ _ => rfl, fun _ _ => rfl, by
  funext j'
  rw [z_q_wq, if_neg]
  rintro ⟨rfl, -⟩
  rcases h with h | h
  · exact hp h
  · omega⟩⟩⟩
theorem v_ex.nw {t n : Nat} (h : B ≤ z_z σ) : v_ex P B σ (z_nw σ t n) := ⟨Nat.le_succ _, fun y hy => by
  have e : ¬ y = z_z σ := by omega
  refine ⟨by rw [z_t_nw, if_neg e], by rw [z_n_nw, if_neg e], ?_, fun _ => ⟨fun c k => by rw [z_i_nw, if_neg e], fun c k => by rw [z_r_nw, if_neg e], ?_⟩⟩
  · funext j
    rw [z_a_nw, if_neg e]
  · funext j
    rw [z_q_nw, if_neg e]⟩
theorem v_ex.of_fr (h : v_fr P σ σ') : v_ex P B σ σ' := by
  obtain ⟨h1, h2, h3, h4, h5, h6, h7⟩ := h
  exact ⟨by rw [h5]; exact Nat.le_refl _, fun y _ => ⟨by rw [h1], by rw [h3], by rw [h4], fun hp => ⟨fun c k => h6 y hp c k, fun c k => by rw [h2], h7 y hp⟩⟩⟩
theorem v_env.same (h : v_env σ) (h1 : z_t σ' = z_t σ) (h2 : z_z σ' = z_z σ) : v_env σ' := ⟨fun a ha => by rw [h2]; exact h.1 a (by rw [← h1]; exact ha), fun a b ha hb => h.2 a b (by rw [← h1]; exact ha) (by rw [← h1]; exact hb)⟩
theorem v_env.fr (h : v_env σ) (hf : v_fr P σ σ') : v_env σ' := h.same hf.1 hf.2.2.2.2.1
theorem v_env.nw (h : v_env σ) {t n : Nat} (ht : t ≠ 32) : v_env (z_nw σ t n) := by
  refine ⟨fun a ha => ?_, fun a b ha hb => ?_⟩
  · rw [z_t_nw] at ha
    rw [z_z_nw]
    by_cases e : a = z_z σ
    · omega
    · rw [if_neg e] at ha
      have := h.1 a ha
      omega
  · rw [z_t_nw] at ha hb
    by_cases e : a = z_z σ
    · rw [if_pos e] at ha; exact absurd ha ht
    · rw [if_neg e] at ha
      by_cases e' : b = z_z σ
      · rw [if_pos e'] at hb; exact absurd hb ht
      · rw [if_neg e'] at hb
        exact h.2 a b ha hb
theorem v_env.lt (h : v_env σ) {a t : Nat} (ht : z_t σ a = t) (h0 : t ≠ 0) : a < z_z σ := h.1 a (by rw [ht]; exact h0)
/-- a picture elsewhere stays, though new cells are made -/
theorem v_rep.ex {a ed : Nat} {lg : Nat → Nat} {ρ : vR} (h : v_rep σ a ed lg ρ) (he : v_env σ) (hf : v_ex P (z_z σ) σ σ') (h1 : ∀ x, a ≤ x → x < a + 46 → ¬ P x) (h2 : ∀ i, i < v_n ρ → ¬ P (lg i)) (h3 : ¬ P ed) : v_rep σ' a ed lg ρ := by
  obtain ⟨t, al, hr, hq, hl, hn, hi⟩ := h
  have up : ∀ x t, z_t σ x = t → t ≠ 0 → x < z_z σ := fun x t e h0 => he.lt e h0
  have pt : ∀ x t, z_t σ x = t → t ≠ 0 → z_t σ' x = t := fun x t e h0 => ((hf.2 x (up x t e h0)).1).trans e
  have pi : ∀ x t, z_t σ x = t → t ≠ 0 → ¬ P x → ∀ c k, z_i σ' c k x = z_i σ c k x := fun x t e h0 hp => ((hf.2 x (up x t e h0)).2.2.2 hp).1
  have pr : ∀ x t, z_t σ x = t → t ≠ 0 → ¬ P x → ∀ c k, z_r σ' c k x = z_r σ c k x := fun x t e h0 hp => ((hf.2 x (up x t e h0)).2.2.2 hp).2.1
  have pq : ∀ x t, z_t σ x = t → t ≠ 0 → ¬ P x → z_q σ' x = z_q σ x := fun x t e h0 hp => ((hf.2 x (up x t e h0)).2.2.2 hp).2.2
  have pn : ∀ x t, z_t σ x = t → t ≠ 0 → z_n σ' x = z_n σ x := fun x t e h0 => (hf.2 x (up x t e h0)).2.1
  refine ⟨?_, ?_, fun r hr6 => ?_, fun q hq18 => ?_, fun i hin => ?_, hn, hi⟩
  · obtain ⟨t1, t2, t3, t4, t5, t6, t7, t8, t9, t10, t11, t12, t13, t14⟩ := t
    have pa := h1 a (Nat.le_refl _) (by omega)
    exact ⟨pt _ _ t1 (by decide), by rw [pi a _ t1 (by decide) pa]; exact t2, by rw [pi a _ t1 (by decide) pa]; exact t3, by rw [pr a _ t1 (by decide) pa]; exact t4, by rw [pr a _ t1 (by decide) pa]; exact t5, by rw [pr a _ t1 (by decide) pa]; exact t6, by rw [pr a _ t1 (by decide) pa]; exact t7, by rw [pr a _ t1 (by decide) pa]; exact t8, pt _ _ t9 (by decide), by rw [pn _ _ t9 (by decide)]; exact t10, fun r hr => by rw [pq _ _ t9 (by decide) (h1 _ (by omega) (by omega))]; exact t11 r hr, pt _ _ t12 (by decide), by rw [pn _ _ t12 (by decide)]; exact t13, fun k hk => by rw [pq _ _ t12 (by decide) (h1 _ (by omega) (by omega))]; exact t14 k hk⟩
  · obtain ⟨l1, l2, l3, l4⟩ := al
    have pa := h1 (a + 1) (by omega) (by omega)
    refine ⟨pt _ _ l1 (by decide), by rw [pi _ _ l1 (by decide) pa]; exact l2, by rw [pr _ _ l1 (by decide) pa]; exact l3, ?_⟩
    rcases l4 with ⟨m1, m2⟩ | ⟨m1, m2, m3, m4, m5⟩
    · exact Or.inl ⟨pt _ _ m1 (by decide), m2⟩
    · exact Or.inr ⟨pt _ _ m1 (by decide), by rw [pn _ _ m1 (by decide)]; exact m2, by rw [pn _ _ m1 (by decide)]; exact m3, by rw [pn _ _ m1 (by decide)]; exact m4, fun i hi9 => by rw [pq _ _ m1 (by decide) h3]; exact m5 i hi9⟩
  · obtain ⟨r1, r2, r3, r4, r5⟩ := hr r hr6
    have hin := v_ra_in (a := a) hr6
    have pa := h1 _ hin.1 hin.2
    exact ⟨pt _ _ r1 (by decide), by rw [pi _ _ r1 (by decide) pa]; exact r2, fun f f1 f2 => by rw [pi _ _ r1 (by decide) pa]; exact r3 f f1 f2, by rw [pr _ _ r1 (by decide) pa]; exact r4, by rw [pr _ _ r1 (by decide) pa]; exact r5⟩
  · obtain ⟨q1, q2, q3, q4, q5, q6, q7, q8⟩ := hq q hq18
    have hin := v_la_in (a := a) hq18
    have pa := h1 _ hin.1 (by omega)
    have pb := h1 (v_la a q + 1) (by omega) hin.2
    exact ⟨pt _ _ q1 (by decide), by rw [pr _ _ q1 (by decide) pa]; exact q2, pt _ _ q3 (by decide), by rw [pn _ _ q3 (by decide)]; exact q4, by rw [pi _ _ q1 (by decide) pa]; exact q5, q6, fun j i hj => by rw [pq _ _ q3 (by decide) pb]; exact q7 j i hj, q8⟩
  · obtain ⟨g1, g2, g3⟩ := hl i hin
    have pa := h2 i hin
    exact ⟨pt _ _ g1 (by decide), by rw [pi _ _ g1 (by decide) pa]; exact g2, fun f f1 f2 => by rw [pi _ _ g1 (by decide) pa]; exact g3 f f1 f2⟩
end VEX
/-! ===== constructors ===== -/
def pJxa1e45_init_da8c8 : zPT := fun as σ K => match as with
  | [.ref L] => K none σ
  | _ => False
abbrev rJxa1e45_init_da8c8 : Room := { frames := 1, cells := 0, slots := 0, locals := 20 }
def clJxa1e45_init_da8c8 : List zC := [(5, 1, p_objinit, 0, 0)]
set_option maxRecDepth 20000 in
theorem kJxa1e45_init_da8c8 (l : Launch) : ∀ q ∈ clJxa1e45_init_da8c8, z_CallP l RJxa1e45 cJxa1e45_init_da8c8 1 rJxa1e45_init_da8c8 q := by
  intro q hq
  simp only [clJxa1e45_init_da8c8, List.mem_cons, List.not_mem_nil, or_false] at hq
  rcases hq with rfl
  · exact z_P_objinit (u := 1) (z_in 104 (by decide +kernel) (by decide +kernel)) (by decide) (by decide)
set_option maxHeartbeats 4000000 in
set_option maxRecDepth 20000 in
theorem gJxa1e45_init_da8c8 : ∀ (as : List Value) (σ : bS) (Kp : Option Value → bS → Prop), pJxa1e45_init_da8c8 as σ Kp → ∀ K : zK, z_Cl tJxa1e45_init_da8c8 clJxa1e45_init_da8c8 (fun v σ c n => Kp v σ ∧ c ≤ 0 ∧ n ≤ 0) 0 0 0 K → K 0 (lv_args 0 as) [] σ 0 0 := by
  intro as σ Kp hp K hK
  unfold pJxa1e45_init_da8c8 at hp
  split at hp
  · rename_i L
    refine hK.1 [] 60 _ _ _ _ _ _ ?_
    simp only [ze_iconst, ze_bipush, ze_sipush, ze_lconst, ze_dconst, ze_aconst_null, ze_ldc, ze_ldc_w, ze_ldc2_w, ze_ldc2_w1, ze_iload, ze_iload_n, ze_lload, ze_lload_n, ze_aload, ze_aload_n, ze_istore, ze_istore_n, ze_lstore, ze_lstore_n, ze_astore, ze_astore_n, ze_iinc, ze_iadd, ze_isub, ze_imul, ze_iand, ze_ior, ze_ixor, ze_ishl, ze_ishr, ze_idiv, ze_irem, ze_ineg, ze_ladd, ze_lsub, ze_lmul, ze_ldiv, ze_lcmp, ze_i2l, ze_l2i, ze_i2d, ze_ddiv, ze_dmul, ze_dsub, ze_dcmp, ze_dup, ze_pop, ze_dup_x1, ze_dup2, ze_goto, ze_ifnull, ze_ifnonnull, ze_getfield, ze_getfield1, ze_putfield, ze_putfield1, ze_iaload, ze_aaload, ze_iastore, ze_aastore, ze_getstatic, ze_arraylength, ze_new, ze_newarray, ze_anewarray, ze_checkcast, ze_invokevirtual, ze_invokespecial, ze_invokestatic, ze_ireturn, ze_lreturn, ze_dreturn, ze_areturn, ze_return_, ze_tableswitch, ze_ifCond_eq, ze_ifCond_ne, ze_ifCond_lt, ze_ifCond_ge, ze_ifCond_gt, ze_ifCond_le, ze_if_icmp_eq, ze_if_icmp_ne, ze_if_icmp_lt, ze_if_icmp_ge, ze_if_icmp_gt, ze_if_icmp_le, ze_acmp_eq, ze_acmp_ne, zs_ldi, zs_ldl, zs_lda, zs_inc, zs_sw0, zs_sw, zs_cb, zs_cb0, zs_inv0, zs_inv1, zs_inv2, zs_inv3, zs_inv4, zs_inv5, zs_inv6, zs_gl, zs_rm0, zs_rm, zs_rm20, zs_rm2, zs_p0, zs_p00, zs_gl0, zs_pk0, zs_pk, zs_fc, zs_ck0, zs_ck, zs_cat0, zs_cat, zs_ci, zs_cl, zs_cd, zs_cr, zs_cn, zs_cf, zs_cu, zs_cu0, zs_wp, zs_wp0, z_rf_ref, z_rf_null, z_rf_rf, z_o_ref, z_o_null, z_o_rf, va_rf_some, va_rf_none, zc_om1, zc_o0, zc_o1, zc_o2, zc_o3, zc_o4, zc_o5, zc_o6, zc_o7, zc_o8, zc_om4, zc_bm2, zc_b6, zc_b7, zc_b8, zc_b9, zc_b10, zc_b11, zc_b12, zc_b14, zc_b15, zc_b16, zc_b17, zc_b18, zc_b20, zc_b21, zc_b22, zc_b24, zc_b30, zc_b40, zc_b41, zc_b60, zc_b63, zc_b64, zc_b66, zc_b76, zc_nI, if_pos, if_neg, reduceIte, Nat.reduceAdd, Nat.reduceMul, Nat.reduceSub, Nat.reduceEqDiff, Nat.reduceLeDiff, Nat.reduceBEq, and_true, true_and, or_true, true_or, or_false, false_or, and_false, false_and, and_self, or_self, implies_true, forall_const, not_true_eq_false, not_false_eq_true, reduceCtorEq, Nat.zero_add, Nat.add_zero, Nat.add_eq_right, Nat.add_right_cancel_iff, Nat.succ_ne_zero, Nat.le_refl, true_implies, false_implies, Option.some.injEq, zc_f0, zc_f1, zc_f2, zc_f3, zs_args, zs_args0, List.length_cons, List.length_nil, z_t_wi, z_i_wi, z_r_wi, z_n_wi, z_a_wi, z_q_wi, z_z_wi, z_t_wr, z_i_wr, z_r_wr, z_n_wr, z_a_wr, z_q_wr, z_z_wr, z_t_wa, z_i_wa, z_r_wa, z_n_wa, z_a_wa, z_q_wa, z_z_wa, z_t_wq, z_i_wq, z_r_wq, z_n_wq, z_a_wq, z_q_wq, z_z_wq, z_t_nw, z_i_nw, z_r_nw, z_n_nw, z_a_nw, z_q_nw, z_z_nw, z_t_uq, z_i_uq, z_r_uq, z_n_uq, z_a_uq, z_z_uq, z_q_uq, ↓zs_PV, zs_rcv, hJxa1e45_init_da8c8_0, hJxa1e45_init_da8c8_1, hJxa1e45_init_da8c8_4, clJxa1e45_init_da8c8, ↓p_objinit]
    exact hp
  · exact hp.elim
theorem ctJxa1e45_init_da8c8 (l : Launch) : z_Ct l yJxa1e45_init_da8c8 cJxa1e45_init_da8c8 1 (none) rJxa1e45_init_da8c8 pJxa1e45_init_da8c8 0 0 := z_Ct_of (T := tJxa1e45_init_da8c8) (cl := clJxa1e45_init_da8c8) (rk := 0) (by decide +kernel) true (fun h => by first | rfl | cases h) oJxa1e45_init_da8c8 (by first | exact Or.inl ⟨rfl, rfl⟩ | exact Or.inr (Or.inl ⟨rfl, rfl⟩) | exact Or.inr (Or.inr (Or.inl ⟨rfl, rfl⟩)) | exact Or.inr (Or.inr (Or.inr (Or.inl ⟨rfl, rfl⟩))) | exact Or.inr (Or.inr (Or.inr (Or.inr (Or.inl ⟨rfl, rfl⟩)))) | exact Or.inr (Or.inr (Or.inr (Or.inr (Or.inr ⟨rfl, Or.inl ⟨_, rfl⟩⟩)))) | exact Or.inr (Or.inr (Or.inr (Or.inr (Or.inr ⟨rfl, Or.inr ⟨_, rfl⟩⟩))))) rfl rfl (kJxa1e45_init_da8c8 l) (by intro as σ K h; unfold pJxa1e45_init_da8c8 at h; split at h <;> first | (simp [lg_sl, Value.category]; done) | exact h.elim) gJxa1e45_init_da8c8
def pJxc12de_init_da8c8 : zPT := fun as σ K => match as with
  | [.ref L] => z_t σ L = 9 ∧ K none (z_wi σ 8 0 L 0)
  | _ => False
abbrev rJxc12de_init_da8c8 : Room := { frames := 2, cells := 0, slots := 0, locals := 40 }
def clJxc12de_init_da8c8 : List zC := [(5, 1, (z_PV 8 pJxa1e45_init_da8c8), 0, 0)]
set_option maxRecDepth 20000 in
theorem kJxc12de_init_da8c8 (l : Launch) : ∀ q ∈ clJxc12de_init_da8c8, z_CallP l RJxc12de cJxc12de_init_da8c8 1 rJxc12de_init_da8c8 q := by
  intro q hq
  simp only [clJxc12de_init_da8c8, List.mem_cons, List.not_mem_nil, or_false] at hq
  rcases hq with rfl
  · exact z_PV_I (l := l) (own := RJxc12de) (cc := cJxc12de_init_da8c8) (nL := 1) (R := rJxc12de_init_da8c8) (u := 1) (d := 8) (n := 0) (ctJxa1e45_init_da8c8 l) wJxa1e45_init_da8c8 (by intro w hw; simp only [List.mem_cons, List.not_mem_nil, or_false] at hw; rcases hw with rfl | rfl | rfl; exact z_in 101 (by decide +kernel) (by decide +kernel); exact z_in 102 (by decide +kernel) (by decide +kernel); exact z_in 56 (by decide +kernel) (by decide +kernel)) rfl rfl rfl ⟨by decide, by decide, by decide +kernel⟩ ⟨by decide, by decide⟩
set_option maxHeartbeats 4000000 in
set_option maxRecDepth 20000 in
theorem gJxc12de_init_da8c8 : ∀ (as : List Value) (σ : bS) (Kp : Option Value → bS → Prop), pJxc12de_init_da8c8 as σ Kp → ∀ K : zK, z_Cl tJxc12de_init_da8c8 clJxc12de_init_da8c8 (fun v σ c n => Kp v σ ∧ c ≤ 0 ∧ n ≤ 0) 0 0 0 K → K 0 (lv_args 0 as) [] σ 0 0 := by
  intro as σ Kp hp K hK
  unfold pJxc12de_init_da8c8 at hp
  split at hp
  · rename_i L
    obtain ⟨h1, hp⟩ := hp
    refine hK.1 [] 60 _ _ _ _ _ _ ?_
    simp only [ze_iconst, ze_bipush, ze_sipush, ze_lconst, ze_dconst, ze_aconst_null, ze_ldc, ze_ldc_w, ze_ldc2_w, ze_ldc2_w1, ze_iload, ze_iload_n, ze_lload, ze_lload_n, ze_aload, ze_aload_n, ze_istore, ze_istore_n, ze_lstore, ze_lstore_n, ze_astore, ze_astore_n, ze_iinc, ze_iadd, ze_isub, ze_imul, ze_iand, ze_ior, ze_ixor, ze_ishl, ze_ishr, ze_idiv, ze_irem, ze_ineg, ze_ladd, ze_lsub, ze_lmul, ze_ldiv, ze_lcmp, ze_i2l, ze_l2i, ze_i2d, ze_ddiv, ze_dmul, ze_dsub, ze_dcmp, ze_dup, ze_pop, ze_dup_x1, ze_dup2, ze_goto, ze_ifnull, ze_ifnonnull, ze_getfield, ze_getfield1, ze_putfield, ze_putfield1, ze_iaload, ze_aaload, ze_iastore, ze_aastore, ze_getstatic, ze_arraylength, ze_new, ze_newarray, ze_anewarray, ze_checkcast, ze_invokevirtual, ze_invokespecial, ze_invokestatic, ze_ireturn, ze_lreturn, ze_dreturn, ze_areturn, ze_return_, ze_tableswitch, ze_ifCond_eq, ze_ifCond_ne, ze_ifCond_lt, ze_ifCond_ge, ze_ifCond_gt, ze_ifCond_le, ze_if_icmp_eq, ze_if_icmp_ne, ze_if_icmp_lt, ze_if_icmp_ge, ze_if_icmp_gt, ze_if_icmp_le, ze_acmp_eq, ze_acmp_ne, zs_ldi, zs_ldl, zs_lda, zs_inc, zs_sw0, zs_sw, zs_cb, zs_cb0, zs_inv0, zs_inv1, zs_inv2, zs_inv3, zs_inv4, zs_inv5, zs_inv6, zs_gl, zs_rm0, zs_rm, zs_rm20, zs_rm2, zs_p0, zs_p00, zs_gl0, zs_pk0, zs_pk, zs_fc, zs_ck0, zs_ck, zs_cat0, zs_cat, zs_ci, zs_cl, zs_cd, zs_cr, zs_cn, zs_cf, zs_cu, zs_cu0, zs_wp, zs_wp0, z_rf_ref, z_rf_null, z_rf_rf, z_o_ref, z_o_null, z_o_rf, va_rf_some, va_rf_none, zc_om1, zc_o0, zc_o1, zc_o2, zc_o3, zc_o4, zc_o5, zc_o6, zc_o7, zc_o8, zc_om4, zc_bm2, zc_b6, zc_b7, zc_b8, zc_b9, zc_b10, zc_b11, zc_b12, zc_b14, zc_b15, zc_b16, zc_b17, zc_b18, zc_b20, zc_b21, zc_b22, zc_b24, zc_b30, zc_b40, zc_b41, zc_b60, zc_b63, zc_b64, zc_b66, zc_b76, zc_nI, if_pos, if_neg, reduceIte, Nat.reduceAdd, Nat.reduceMul, Nat.reduceSub, Nat.reduceEqDiff, Nat.reduceLeDiff, Nat.reduceBEq, and_true, true_and, or_true, true_or, or_false, false_or, and_false, false_and, and_self, or_self, implies_true, forall_const, not_true_eq_false, not_false_eq_true, reduceCtorEq, Nat.zero_add, Nat.add_zero, Nat.add_eq_right, Nat.add_right_cancel_iff, Nat.succ_ne_zero, Nat.le_refl, true_implies, false_implies, Option.some.injEq, zc_f0, zc_f1, zc_f2, zc_f3, zs_args, zs_args0, List.length_cons, List.length_nil, z_t_wi, z_i_wi, z_r_wi, z_n_wi, z_a_wi, z_q_wi, z_z_wi, z_t_wr, z_i_wr, z_r_wr, z_n_wr, z_a_wr, z_q_wr, z_z_wr, z_t_wa, z_i_wa, z_r_wa, z_n_wa, z_a_wa, z_q_wa, z_z_wa, z_t_wq, z_i_wq, z_r_wq, z_n_wq, z_a_wq, z_q_wq, z_z_wq, z_t_nw, z_i_nw, z_r_nw, z_n_nw, z_a_nw, z_q_nw, z_z_nw, z_t_uq, z_i_uq, z_r_uq, z_n_uq, z_a_uq, z_z_uq, z_q_uq, ↓zs_PV, zs_rcv, hJxc12de_init_da8c8_0, hJxc12de_init_da8c8_1, hJxc12de_init_da8c8_4, hJxc12de_init_da8c8_5, hJxc12de_init_da8c8_6, hJxc12de_init_da8c8_9, clJxc12de_init_da8c8, ↓pJxa1e45_init_da8c8, h1]
    exact hp
  · exact hp.elim
theorem ctJxc12de_init_da8c8 (l : Launch) : z_Ct l yJxc12de_init_da8c8 cJxc12de_init_da8c8 1 (none) rJxc12de_init_da8c8 pJxc12de_init_da8c8 0 0 := z_Ct_of (T := tJxc12de_init_da8c8) (cl := clJxc12de_init_da8c8) (rk := 0) (by decide +kernel) true (fun h => by first | rfl | cases h) oJxc12de_init_da8c8 (by first | exact Or.inl ⟨rfl, rfl⟩ | exact Or.inr (Or.inl ⟨rfl, rfl⟩) | exact Or.inr (Or.inr (Or.inl ⟨rfl, rfl⟩)) | exact Or.inr (Or.inr (Or.inr (Or.inl ⟨rfl, rfl⟩))) | exact Or.inr (Or.inr (Or.inr (Or.inr (Or.inl ⟨rfl, rfl⟩)))) | exact Or.inr (Or.inr (Or.inr (Or.inr (Or.inr ⟨rfl, Or.inl ⟨_, rfl⟩⟩)))) | exact Or.inr (Or.inr (Or.inr (Or.inr (Or.inr ⟨rfl, Or.inr ⟨_, rfl⟩⟩))))) rfl rfl (kJxc12de_init_da8c8 l) (by intro as σ K h; unfold pJxc12de_init_da8c8 at h; split at h <;> first | (simp [lg_sl, Value.category]; done) | exact h.elim) gJxc12de_init_da8c8
def pJx4a65c_init_da8c8 : zPT := fun as σ K => match as with
  | [.ref L] => z_t σ L = 9 ∧ ∀ s, z_t σ s = 32 → K none (z_wr (z_wi σ 8 0 L 0) 8 1 L (some s))
  | _ => False
abbrev rJx4a65c_init_da8c8 : Room := { frames := 3, cells := 0, slots := 0, locals := 60 }
def clJx4a65c_init_da8c8 : List zC := [(5, 1, (z_PV 8 pJxc12de_init_da8c8), 0, 0)]
set_option maxRecDepth 20000 in
theorem kJx4a65c_init_da8c8 (l : Launch) : ∀ q ∈ clJx4a65c_init_da8c8, z_CallP l RJx4a65c cJx4a65c_init_da8c8 1 rJx4a65c_init_da8c8 q := by
  intro q hq
  simp only [clJx4a65c_init_da8c8, List.mem_cons, List.not_mem_nil, or_false] at hq
  rcases hq with rfl
  · exact z_PV_I (l := l) (own := RJx4a65c) (cc := cJx4a65c_init_da8c8) (nL := 1) (R := rJx4a65c_init_da8c8) (u := 1) (d := 8) (n := 0) (ctJxc12de_init_da8c8 l) wJxc12de_init_da8c8 (by intro w hw; simp only [List.mem_cons, List.not_mem_nil, or_false] at hw; rcases hw with rfl | rfl | rfl; exact z_in 98 (by decide +kernel) (by decide +kernel); exact z_in 99 (by decide +kernel) (by decide +kernel); exact z_in 57 (by decide +kernel) (by decide +kernel)) rfl rfl rfl ⟨by decide, by decide, by decide +kernel⟩ ⟨by decide, by decide⟩
set_option maxHeartbeats 4000000 in
set_option maxRecDepth 20000 in
theorem gJx4a65c_init_da8c8 : ∀ (as : List Value) (σ : bS) (Kp : Option Value → bS → Prop), pJx4a65c_init_da8c8 as σ Kp → ∀ K : zK, z_Cl tJx4a65c_init_da8c8 clJx4a65c_init_da8c8 (fun v σ c n => Kp v σ ∧ c ≤ 0 ∧ n ≤ 0) 0 0 0 K → K 0 (lv_args 0 as) [] σ 0 0 := by
  intro as σ Kp hp K hK
  unfold pJx4a65c_init_da8c8 at hp
  split at hp
  · rename_i L
    obtain ⟨h1, hp⟩ := hp
    refine hK.1 [] 60 _ _ _ _ _ _ ?_
    simp only [ze_iconst, ze_bipush, ze_sipush, ze_lconst, ze_dconst, ze_aconst_null, ze_ldc, ze_ldc_w, ze_ldc2_w, ze_ldc2_w1, ze_iload, ze_iload_n, ze_lload, ze_lload_n, ze_aload, ze_aload_n, ze_istore, ze_istore_n, ze_lstore, ze_lstore_n, ze_astore, ze_astore_n, ze_iinc, ze_iadd, ze_isub, ze_imul, ze_iand, ze_ior, ze_ixor, ze_ishl, ze_ishr, ze_idiv, ze_irem, ze_ineg, ze_ladd, ze_lsub, ze_lmul, ze_ldiv, ze_lcmp, ze_i2l, ze_l2i, ze_i2d, ze_ddiv, ze_dmul, ze_dsub, ze_dcmp, ze_dup, ze_pop, ze_dup_x1, ze_dup2, ze_goto, ze_ifnull, ze_ifnonnull, ze_getfield, ze_getfield1, ze_putfield, ze_putfield1, ze_iaload, ze_aaload, ze_iastore, ze_aastore, ze_getstatic, ze_arraylength, ze_new, ze_newarray, ze_anewarray, ze_checkcast, ze_invokevirtual, ze_invokespecial, ze_invokestatic, ze_ireturn, ze_lreturn, ze_dreturn, ze_areturn, ze_return_, ze_tableswitch, ze_ifCond_eq, ze_ifCond_ne, ze_ifCond_lt, ze_ifCond_ge, ze_ifCond_gt, ze_ifCond_le, ze_if_icmp_eq, ze_if_icmp_ne, ze_if_icmp_lt, ze_if_icmp_ge, ze_if_icmp_gt, ze_if_icmp_le, ze_acmp_eq, ze_acmp_ne, zs_ldi, zs_ldl, zs_lda, zs_inc, zs_sw0, zs_sw, zs_cb, zs_cb0, zs_inv0, zs_inv1, zs_inv2, zs_inv3, zs_inv4, zs_inv5, zs_inv6, zs_gl, zs_rm0, zs_rm, zs_rm20, zs_rm2, zs_p0, zs_p00, zs_gl0, zs_pk0, zs_pk, zs_fc, zs_ck0, zs_ck, zs_cat0, zs_cat, zs_ci, zs_cl, zs_cd, zs_cr, zs_cn, zs_cf, zs_cu, zs_cu0, zs_wp, zs_wp0, z_rf_ref, z_rf_null, z_rf_rf, z_o_ref, z_o_null, z_o_rf, va_rf_some, va_rf_none, zc_om1, zc_o0, zc_o1, zc_o2, zc_o3, zc_o4, zc_o5, zc_o6, zc_o7, zc_o8, zc_om4, zc_bm2, zc_b6, zc_b7, zc_b8, zc_b9, zc_b10, zc_b11, zc_b12, zc_b14, zc_b15, zc_b16, zc_b17, zc_b18, zc_b20, zc_b21, zc_b22, zc_b24, zc_b30, zc_b40, zc_b41, zc_b60, zc_b63, zc_b64, zc_b66, zc_b76, zc_nI, if_pos, if_neg, reduceIte, Nat.reduceAdd, Nat.reduceMul, Nat.reduceSub, Nat.reduceEqDiff, Nat.reduceLeDiff, Nat.reduceBEq, and_true, true_and, or_true, true_or, or_false, false_or, and_false, false_and, and_self, or_self, implies_true, forall_const, not_true_eq_false, not_false_eq_true, reduceCtorEq, Nat.zero_add, Nat.add_zero, Nat.add_eq_right, Nat.add_right_cancel_iff, Nat.succ_ne_zero, Nat.le_refl, true_implies, false_implies, Option.some.injEq, zc_f0, zc_f1, zc_f2, zc_f3, zs_args, zs_args0, List.length_cons, List.length_nil, z_t_wi, z_i_wi, z_r_wi, z_n_wi, z_a_wi, z_q_wi, z_z_wi, z_t_wr, z_i_wr, z_r_wr, z_n_wr, z_a_wr, z_q_wr, z_z_wr, z_t_wa, z_i_wa, z_r_wa, z_n_wa, z_a_wa, z_q_wa, z_z_wa, z_t_wq, z_i_wq, z_r_wq, z_n_wq, z_a_wq, z_q_wq, z_z_wq, z_t_nw, z_i_nw, z_r_nw, z_n_nw, z_a_nw, z_q_nw, z_z_nw, z_t_uq, z_i_uq, z_r_uq, z_n_uq, z_a_uq, z_z_uq, z_q_uq, ↓zs_PV, zs_rcv, hJx4a65c_init_da8c8_0, hJx4a65c_init_da8c8_1, hJx4a65c_init_da8c8_4, hJx4a65c_init_da8c8_5, hJx4a65c_init_da8c8_8, hJx4a65c_init_da8c8_11, clJx4a65c_init_da8c8, ↓pJxc12de_init_da8c8, h1]
    exact hp
  · exact hp.elim
theorem ctJx4a65c_init_da8c8 (l : Launch) : z_Ct l yJx4a65c_init_da8c8 cJx4a65c_init_da8c8 1 (none) rJx4a65c_init_da8c8 pJx4a65c_init_da8c8 0 0 := z_Ct_of (T := tJx4a65c_init_da8c8) (cl := clJx4a65c_init_da8c8) (rk := 0) (by decide +kernel) true (fun h => by first | rfl | cases h) oJx4a65c_init_da8c8 (by first | exact Or.inl ⟨rfl, rfl⟩ | exact Or.inr (Or.inl ⟨rfl, rfl⟩) | exact Or.inr (Or.inr (Or.inl ⟨rfl, rfl⟩)) | exact Or.inr (Or.inr (Or.inr (Or.inl ⟨rfl, rfl⟩))) | exact Or.inr (Or.inr (Or.inr (Or.inr (Or.inl ⟨rfl, rfl⟩)))) | exact Or.inr (Or.inr (Or.inr (Or.inr (Or.inr ⟨rfl, Or.inl ⟨_, rfl⟩⟩)))) | exact Or.inr (Or.inr (Or.inr (Or.inr (Or.inr ⟨rfl, Or.inr ⟨_, rfl⟩⟩))))) rfl rfl (kJx4a65c_init_da8c8 l) (by intro as σ K h; unfold pJx4a65c_init_da8c8 at h; split at h <;> first | (simp [lg_sl, Value.category]; done) | exact h.elim) gJx4a65c_init_da8c8
def pX3_init : zPT := fun as σ K => match as with
  | [.ref o] => z_t σ o = 4 ∧ K none (z_wi (z_wi (z_wi (z_wi σ 3 0 o 0) 3 1 o 0) 3 2 o 0) 3 3 o 0)
  | _ => False
abbrev rX3_init : Room := { frames := 1, cells := 0, slots := 0, locals := 20 }
def clX3_init : List zC := [(5, 1, p_objinit, 0, 0)]
set_option maxRecDepth 20000 in
theorem kX3_init (l : Launch) : ∀ q ∈ clX3_init, z_CallP l RX3 cX3_init 1 rX3_init q := by
  intro q hq
  simp only [clX3_init, List.mem_cons, List.not_mem_nil, or_false] at hq
  rcases hq with rfl
  · exact z_P_objinit (u := 1) (z_in 220 (by decide +kernel) (by decide +kernel)) (by decide) (by decide)
set_option maxHeartbeats 4000000 in
set_option maxRecDepth 20000 in
theorem gX3_init : ∀ (as : List Value) (σ : bS) (Kp : Option Value → bS → Prop), pX3_init as σ Kp → ∀ K : zK, z_Cl tX3_init clX3_init (fun v σ c n => Kp v σ ∧ c ≤ 0 ∧ n ≤ 0) 0 0 0 K → K 0 (lv_args 0 as) [] σ 0 0 := by
  intro as σ Kp hp K hK
  unfold pX3_init at hp
  split at hp
  · rename_i o
    obtain ⟨h1, hp⟩ := hp
    refine hK.1 [] 60 _ _ _ _ _ _ ?_
    simp only [ze_iconst, ze_bipush, ze_sipush, ze_lconst, ze_dconst, ze_aconst_null, ze_ldc, ze_ldc_w, ze_ldc2_w, ze_ldc2_w1, ze_iload, ze_iload_n, ze_lload, ze_lload_n, ze_aload, ze_aload_n, ze_istore, ze_istore_n, ze_lstore, ze_lstore_n, ze_astore, ze_astore_n, ze_iinc, ze_iadd, ze_isub, ze_imul, ze_iand, ze_ior, ze_ixor, ze_ishl, ze_ishr, ze_idiv, ze_irem, ze_ineg, ze_ladd, ze_lsub, ze_lmul, ze_ldiv, ze_lcmp, ze_i2l, ze_l2i, ze_i2d, ze_ddiv, ze_dmul, ze_dsub, ze_dcmp, ze_dup, ze_pop, ze_dup_x1, ze_dup2, ze_goto, ze_ifnull, ze_ifnonnull, ze_getfield, ze_getfield1, ze_putfield, ze_putfield1, ze_iaload, ze_aaload, ze_iastore, ze_aastore, ze_getstatic, ze_arraylength, ze_new, ze_newarray, ze_anewarray, ze_checkcast, ze_invokevirtual, ze_invokespecial, ze_invokestatic, ze_ireturn, ze_lreturn, ze_dreturn, ze_areturn, ze_return_, ze_tableswitch, ze_ifCond_eq, ze_ifCond_ne, ze_ifCond_lt, ze_ifCond_ge, ze_ifCond_gt, ze_ifCond_le, ze_if_icmp_eq, ze_if_icmp_ne, ze_if_icmp_lt, ze_if_icmp_ge, ze_if_icmp_gt, ze_if_icmp_le, ze_acmp_eq, ze_acmp_ne, zs_ldi, zs_ldl, zs_lda, zs_inc, zs_sw0, zs_sw, zs_cb, zs_cb0, zs_inv0, zs_inv1, zs_inv2, zs_inv3, zs_inv4, zs_inv5, zs_inv6, zs_gl, zs_rm0, zs_rm, zs_rm20, zs_rm2, zs_p0, zs_p00, zs_gl0, zs_pk0, zs_pk, zs_fc, zs_ck0, zs_ck, zs_cat0, zs_cat, zs_ci, zs_cl, zs_cd, zs_cr, zs_cn, zs_cf, zs_cu, zs_cu0, zs_wp, zs_wp0, z_rf_ref, z_rf_null, z_rf_rf, z_o_ref, z_o_null, z_o_rf, va_rf_some, va_rf_none, zc_om1, zc_o0, zc_o1, zc_o2, zc_o3, zc_o4, zc_o5, zc_o6, zc_o7, zc_o8, zc_om4, zc_bm2, zc_b6, zc_b7, zc_b8, zc_b9, zc_b10, zc_b11, zc_b12, zc_b14, zc_b15, zc_b16, zc_b17, zc_b18, zc_b20, zc_b21, zc_b22, zc_b24, zc_b30, zc_b40, zc_b41, zc_b60, zc_b63, zc_b64, zc_b66, zc_b76, zc_nI, if_pos, if_neg, reduceIte, Nat.reduceAdd, Nat.reduceMul, Nat.reduceSub, Nat.reduceEqDiff, Nat.reduceLeDiff, Nat.reduceBEq, and_true, true_and, or_true, true_or, or_false, false_or, and_false, false_and, and_self, or_self, implies_true, forall_const, not_true_eq_false, not_false_eq_true, reduceCtorEq, Nat.zero_add, Nat.add_zero, Nat.add_eq_right, Nat.add_right_cancel_iff, Nat.succ_ne_zero, Nat.le_refl, true_implies, false_implies, Option.some.injEq, zc_f0, zc_f1, zc_f2, zc_f3, zs_args, zs_args0, List.length_cons, List.length_nil, z_t_wi, z_i_wi, z_r_wi, z_n_wi, z_a_wi, z_q_wi, z_z_wi, z_t_wr, z_i_wr, z_r_wr, z_n_wr, z_a_wr, z_q_wr, z_z_wr, z_t_wa, z_i_wa, z_r_wa, z_n_wa, z_a_wa, z_q_wa, z_z_wa, z_t_wq, z_i_wq, z_r_wq, z_n_wq, z_a_wq, z_q_wq, z_z_wq, z_t_nw, z_i_nw, z_r_nw, z_n_nw, z_a_nw, z_q_nw, z_z_nw, z_t_uq, z_i_uq, z_r_uq, z_n_uq, z_a_uq, z_z_uq, z_q_uq, ↓zs_PV, zs_rcv, hX3_init_0, hX3_init_1, hX3_init_4, hX3_init_5, hX3_init_6, hX3_init_9, hX3_init_10, hX3_init_11, hX3_init_14, hX3_init_15, hX3_init_16, hX3_init_19, hX3_init_20, hX3_init_21, hX3_init_24, clX3_init, ↓p_objinit, h1]
    exact hp
  · exact hp.elim
theorem ctX3_init (l : Launch) : z_Ct l yX3_init cX3_init 1 (none) rX3_init pX3_init 0 0 := z_Ct_of (T := tX3_init) (cl := clX3_init) (rk := 0) (by decide +kernel) true (fun h => by first | rfl | cases h) oX3_init (by first | exact Or.inl ⟨rfl, rfl⟩ | exact Or.inr (Or.inl ⟨rfl, rfl⟩) | exact Or.inr (Or.inr (Or.inl ⟨rfl, rfl⟩)) | exact Or.inr (Or.inr (Or.inr (Or.inl ⟨rfl, rfl⟩))) | exact Or.inr (Or.inr (Or.inr (Or.inr (Or.inl ⟨rfl, rfl⟩)))) | exact Or.inr (Or.inr (Or.inr (Or.inr (Or.inr ⟨rfl, Or.inl ⟨_, rfl⟩⟩)))) | exact Or.inr (Or.inr (Or.inr (Or.inr (Or.inr ⟨rfl, Or.inr ⟨_, rfl⟩⟩))))) rfl rfl (kX3_init l) (by intro as σ K h; unfold pX3_init at h; split at h <;> first | (simp [lg_sl, Value.category]; done) | exact h.elim) gX3_init
def pX2_init : zPT := fun as σ K => match as with
  | [.ref o, .int k, .int l, .int p, .int d] => z_t σ o = 3 ∧ K none (z_wi (z_wi (z_wi (z_wi σ 2 0 o k) 2 1 o l) 2 2 o p) 2 3 o d)
  | _ => False
abbrev rX2_init : Room := { frames := 1, cells := 0, slots := 0, locals := 20 }
def clX2_init : List zC := [(5, 1, p_objinit, 0, 0)]
set_option maxRecDepth 20000 in
theorem kX2_init (l : Launch) : ∀ q ∈ clX2_init, z_CallP l RX2 cX2_init 5 rX2_init q := by
  intro q hq
  simp only [clX2_init, List.mem_cons, List.not_mem_nil, or_false] at hq
  rcases hq with rfl
  · exact z_P_objinit (u := 1) (z_in 532 (by decide +kernel) (by decide +kernel)) (by decide) (by decide)
set_option maxHeartbeats 4000000 in
set_option maxRecDepth 20000 in
theorem gX2_init : ∀ (as : List Value) (σ : bS) (Kp : Option Value → bS → Prop), pX2_init as σ Kp → ∀ K : zK, z_Cl tX2_init clX2_init (fun v σ c n => Kp v σ ∧ c ≤ 0 ∧ n ≤ 0) 0 0 0 K → K 0 (lv_args 0 as) [] σ 0 0 := by
  intro as σ Kp hp K hK
  unfold pX2_init at hp
  split at hp
  · rename_i o k l p d
    obtain ⟨h1, hp⟩ := hp
    refine hK.1 [] 60 _ _ _ _ _ _ ?_
    simp only [ze_iconst, ze_bipush, ze_sipush, ze_lconst, ze_dconst, ze_aconst_null, ze_ldc, ze_ldc_w, ze_ldc2_w, ze_ldc2_w1, ze_iload, ze_iload_n, ze_lload, ze_lload_n, ze_aload, ze_aload_n, ze_istore, ze_istore_n, ze_lstore, ze_lstore_n, ze_astore, ze_astore_n, ze_iinc, ze_iadd, ze_isub, ze_imul, ze_iand, ze_ior, ze_ixor, ze_ishl, ze_ishr, ze_idiv, ze_irem, ze_ineg, ze_ladd, ze_lsub, ze_lmul, ze_ldiv, ze_lcmp, ze_i2l, ze_l2i, ze_i2d, ze_ddiv, ze_dmul, ze_dsub, ze_dcmp, ze_dup, ze_pop, ze_dup_x1, ze_dup2, ze_goto, ze_ifnull, ze_ifnonnull, ze_getfield, ze_getfield1, ze_putfield, ze_putfield1, ze_iaload, ze_aaload, ze_iastore, ze_aastore, ze_getstatic, ze_arraylength, ze_new, ze_newarray, ze_anewarray, ze_checkcast, ze_invokevirtual, ze_invokespecial, ze_invokestatic, ze_ireturn, ze_lreturn, ze_dreturn, ze_areturn, ze_return_, ze_tableswitch, ze_ifCond_eq, ze_ifCond_ne, ze_ifCond_lt, ze_ifCond_ge, ze_ifCond_gt, ze_ifCond_le, ze_if_icmp_eq, ze_if_icmp_ne, ze_if_icmp_lt, ze_if_icmp_ge, ze_if_icmp_gt, ze_if_icmp_le, ze_acmp_eq, ze_acmp_ne, zs_ldi, zs_ldl, zs_lda, zs_inc, zs_sw0, zs_sw, zs_cb, zs_cb0, zs_inv0, zs_inv1, zs_inv2, zs_inv3, zs_inv4, zs_inv5, zs_inv6, zs_gl, zs_rm0, zs_rm, zs_rm20, zs_rm2, zs_p0, zs_p00, zs_gl0, zs_pk0, zs_pk, zs_fc, zs_ck0, zs_ck, zs_cat0, zs_cat, zs_ci, zs_cl, zs_cd, zs_cr, zs_cn, zs_cf, zs_cu, zs_cu0, zs_wp, zs_wp0, z_rf_ref, z_rf_null, z_rf_rf, z_o_ref, z_o_null, z_o_rf, va_rf_some, va_rf_none, zc_om1, zc_o0, zc_o1, zc_o2, zc_o3, zc_o4, zc_o5, zc_o6, zc_o7, zc_o8, zc_om4, zc_bm2, zc_b6, zc_b7, zc_b8, zc_b9, zc_b10, zc_b11, zc_b12, zc_b14, zc_b15, zc_b16, zc_b17, zc_b18, zc_b20, zc_b21, zc_b22, zc_b24, zc_b30, zc_b40, zc_b41, zc_b60, zc_b63, zc_b64, zc_b66, zc_b76, zc_nI, if_pos, if_neg, reduceIte, Nat.reduceAdd, Nat.reduceMul, Nat.reduceSub, Nat.reduceEqDiff, Nat.reduceLeDiff, Nat.reduceBEq, and_true, true_and, or_true, true_or, or_false, false_or, and_false, false_and, and_self, or_self, implies_true, forall_const, not_true_eq_false, not_false_eq_true, reduceCtorEq, Nat.zero_add, Nat.add_zero, Nat.add_eq_right, Nat.add_right_cancel_iff, Nat.succ_ne_zero, Nat.le_refl, true_implies, false_implies, Option.some.injEq, zc_f0, zc_f1, zc_f2, zc_f3, zs_args, zs_args0, List.length_cons, List.length_nil, z_t_wi, z_i_wi, z_r_wi, z_n_wi, z_a_wi, z_q_wi, z_z_wi, z_t_wr, z_i_wr, z_r_wr, z_n_wr, z_a_wr, z_q_wr, z_z_wr, z_t_wa, z_i_wa, z_r_wa, z_n_wa, z_a_wa, z_q_wa, z_z_wa, z_t_wq, z_i_wq, z_r_wq, z_n_wq, z_a_wq, z_q_wq, z_z_wq, z_t_nw, z_i_nw, z_r_nw, z_n_nw, z_a_nw, z_q_nw, z_z_nw, z_t_uq, z_i_uq, z_r_uq, z_n_uq, z_a_uq, z_z_uq, z_q_uq, ↓zs_PV, zs_rcv, hX2_init_0, hX2_init_1, hX2_init_4, hX2_init_5, hX2_init_6, hX2_init_9, hX2_init_10, hX2_init_11, hX2_init_14, hX2_init_15, hX2_init_16, hX2_init_19, hX2_init_20, hX2_init_22, hX2_init_25, clX2_init, ↓p_objinit, h1]
    exact hp
  · exact hp.elim
theorem ctX2_init (l : Launch) : z_Ct l yX2_init cX2_init 5 (none) rX2_init pX2_init 0 0 := z_Ct_of (T := tX2_init) (cl := clX2_init) (rk := 0) (by decide +kernel) true (fun h => by first | rfl | cases h) oX2_init (by first | exact Or.inl ⟨rfl, rfl⟩ | exact Or.inr (Or.inl ⟨rfl, rfl⟩) | exact Or.inr (Or.inr (Or.inl ⟨rfl, rfl⟩)) | exact Or.inr (Or.inr (Or.inr (Or.inl ⟨rfl, rfl⟩))) | exact Or.inr (Or.inr (Or.inr (Or.inr (Or.inl ⟨rfl, rfl⟩)))) | exact Or.inr (Or.inr (Or.inr (Or.inr (Or.inr ⟨rfl, Or.inl ⟨_, rfl⟩⟩)))) | exact Or.inr (Or.inr (Or.inr (Or.inr (Or.inr ⟨rfl, Or.inr ⟨_, rfl⟩⟩))))) rfl rfl (kX2_init l) (by intro as σ K h; unfold pX2_init at h; split at h <;> first | (simp [lg_sl, Value.category]; done) | exact h.elim) gX2_init
def pX4_init : zPT := fun as σ K => match as with
  | [.ref o, .int k, .ref w, .int d] => z_t σ o = 5 ∧ z_t σ w = 3 ∧ K none (z_wi (z_wr (z_wi σ 4 0 o k) 4 1 o (some w)) 4 2 o d)
  | _ => False
abbrev rX4_init : Room := { frames := 1, cells := 0, slots := 0, locals := 20 }
def clX4_init : List zC := [(5, 1, p_objinit, 0, 0)]
set_option maxRecDepth 20000 in
theorem kX4_init (l : Launch) : ∀ q ∈ clX4_init, z_CallP l RX4 cX4_init 4 rX4_init q := by
  intro q hq
  simp only [clX4_init, List.mem_cons, List.not_mem_nil, or_false] at hq
  rcases hq with rfl
  · exact z_P_objinit (u := 1) (z_in 770 (by decide +kernel) (by decide +kernel)) (by decide) (by decide)
set_option maxHeartbeats 4000000 in
set_option maxRecDepth 20000 in
theorem gX4_init : ∀ (as : List Value) (σ : bS) (Kp : Option Value → bS → Prop), pX4_init as σ Kp → ∀ K : zK, z_Cl tX4_init clX4_init (fun v σ c n => Kp v σ ∧ c ≤ 0 ∧ n ≤ 0) 0 0 0 K → K 0 (lv_args 0 as) [] σ 0 0 := by
  intro as σ Kp hp K hK
  unfold pX4_init at hp
  split at hp
  · rename_i o k w d
    obtain ⟨h1, h2, hp⟩ := hp
    refine hK.1 [] 60 _ _ _ _ _ _ ?_
    simp only [ze_iconst, ze_bipush, ze_sipush, ze_lconst, ze_dconst, ze_aconst_null, ze_ldc, ze_ldc_w, ze_ldc2_w, ze_ldc2_w1, ze_iload, ze_iload_n, ze_lload, ze_lload_n, ze_aload, ze_aload_n, ze_istore, ze_istore_n, ze_lstore, ze_lstore_n, ze_astore, ze_astore_n, ze_iinc, ze_iadd, ze_isub, ze_imul, ze_iand, ze_ior, ze_ixor, ze_ishl, ze_ishr, ze_idiv, ze_irem, ze_ineg, ze_ladd, ze_lsub, ze_lmul, ze_ldiv, ze_lcmp, ze_i2l, ze_l2i, ze_i2d, ze_ddiv, ze_dmul, ze_dsub, ze_dcmp, ze_dup, ze_pop, ze_dup_x1, ze_dup2, ze_goto, ze_ifnull, ze_ifnonnull, ze_getfield, ze_getfield1, ze_putfield, ze_putfield1, ze_iaload, ze_aaload, ze_iastore, ze_aastore, ze_getstatic, ze_arraylength, ze_new, ze_newarray, ze_anewarray, ze_checkcast, ze_invokevirtual, ze_invokespecial, ze_invokestatic, ze_ireturn, ze_lreturn, ze_dreturn, ze_areturn, ze_return_, ze_tableswitch, ze_ifCond_eq, ze_ifCond_ne, ze_ifCond_lt, ze_ifCond_ge, ze_ifCond_gt, ze_ifCond_le, ze_if_icmp_eq, ze_if_icmp_ne, ze_if_icmp_lt, ze_if_icmp_ge, ze_if_icmp_gt, ze_if_icmp_le, ze_acmp_eq, ze_acmp_ne, zs_ldi, zs_ldl, zs_lda, zs_inc, zs_sw0, zs_sw, zs_cb, zs_cb0, zs_inv0, zs_inv1, zs_inv2, zs_inv3, zs_inv4, zs_inv5, zs_inv6, zs_gl, zs_rm0, zs_rm, zs_rm20, zs_rm2, zs_p0, zs_p00, zs_gl0, zs_pk0, zs_pk, zs_fc, zs_ck0, zs_ck, zs_cat0, zs_cat, zs_ci, zs_cl, zs_cd, zs_cr, zs_cn, zs_cf, zs_cu, zs_cu0, zs_wp, zs_wp0, z_rf_ref, z_rf_null, z_rf_rf, z_o_ref, z_o_null, z_o_rf, va_rf_some, va_rf_none, zc_om1, zc_o0, zc_o1, zc_o2, zc_o3, zc_o4, zc_o5, zc_o6, zc_o7, zc_o8, zc_om4, zc_bm2, zc_b6, zc_b7, zc_b8, zc_b9, zc_b10, zc_b11, zc_b12, zc_b14, zc_b15, zc_b16, zc_b17, zc_b18, zc_b20, zc_b21, zc_b22, zc_b24, zc_b30, zc_b40, zc_b41, zc_b60, zc_b63, zc_b64, zc_b66, zc_b76, zc_nI, if_pos, if_neg, reduceIte, Nat.reduceAdd, Nat.reduceMul, Nat.reduceSub, Nat.reduceEqDiff, Nat.reduceLeDiff, Nat.reduceBEq, and_true, true_and, or_true, true_or, or_false, false_or, and_false, false_and, and_self, or_self, implies_true, forall_const, not_true_eq_false, not_false_eq_true, reduceCtorEq, Nat.zero_add, Nat.add_zero, Nat.add_eq_right, Nat.add_right_cancel_iff, Nat.succ_ne_zero, Nat.le_refl, true_implies, false_implies, Option.some.injEq, zc_f0, zc_f1, zc_f2, zc_f3, zs_args, zs_args0, List.length_cons, List.length_nil, z_t_wi, z_i_wi, z_r_wi, z_n_wi, z_a_wi, z_q_wi, z_z_wi, z_t_wr, z_i_wr, z_r_wr, z_n_wr, z_a_wr, z_q_wr, z_z_wr, z_t_wa, z_i_wa, z_r_wa, z_n_wa, z_a_wa, z_q_wa, z_z_wa, z_t_wq, z_i_wq, z_r_wq, z_n_wq, z_a_wq, z_q_wq, z_z_wq, z_t_nw, z_i_nw, z_r_nw, z_n_nw, z_a_nw, z_q_nw, z_z_nw, z_t_uq, z_i_uq, z_r_uq, z_n_uq, z_a_uq, z_z_uq, z_q_uq, ↓zs_PV, zs_rcv, hX4_init_0, hX4_init_1, hX4_init_4, hX4_init_5, hX4_init_6, hX4_init_9, hX4_init_10, hX4_init_11, hX4_init_14, hX4_init_15, hX4_init_16, hX4_init_19, clX4_init, ↓p_objinit, h1, h2]
    exact hp
  · exact hp.elim
theorem ctX4_init (l : Launch) : z_Ct l yX4_init cX4_init 4 (none) rX4_init pX4_init 0 0 := z_Ct_of (T := tX4_init) (cl := clX4_init) (rk := 0) (by decide +kernel) true (fun h => by first | rfl | cases h) oX4_init (by first | exact Or.inl ⟨rfl, rfl⟩ | exact Or.inr (Or.inl ⟨rfl, rfl⟩) | exact Or.inr (Or.inr (Or.inl ⟨rfl, rfl⟩)) | exact Or.inr (Or.inr (Or.inr (Or.inl ⟨rfl, rfl⟩))) | exact Or.inr (Or.inr (Or.inr (Or.inr (Or.inl ⟨rfl, rfl⟩)))) | exact Or.inr (Or.inr (Or.inr (Or.inr (Or.inr ⟨rfl, Or.inl ⟨_, rfl⟩⟩)))) | exact Or.inr (Or.inr (Or.inr (Or.inr (Or.inr ⟨rfl, Or.inr ⟨_, rfl⟩⟩))))) rfl rfl (kX4_init l) (by intro as σ K h; unfold pX4_init at h; split at h <;> first | (simp [lg_sl, Value.category]; done) | exact h.elim) gX4_init
