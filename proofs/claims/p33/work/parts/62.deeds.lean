/-! ===== deeds on the river: roll, blast, storm ===== -/
theorem m_rollL_st (r : Nat) (hr : r < 6) : ∀ (m k : Nat) (ρ : vR) (c : Int32), v_inv ρ → k + m = v_n ρ → v_inv (m_rollL r m k ρ c).1 ∧ v_mv ρ (m_rollL r m k ρ c).1 ∧ (m_rollL r m k ρ c).2 = m_fold (fun i c => if v_L ρ i 6 = 0 ∧ v_L ρ i 7 = nI r then c + 1 else c) m k c ∧ (∀ i, i < k → v_L (m_rollL r m k ρ c).1 i = v_L ρ i) ∧ ∀ i, k ≤ i → i < v_n ρ → ¬ (v_L (m_rollL r m k ρ c).1 i 6 = 0 ∧ v_L (m_rollL r m k ρ c).1 i 7 = nI r) := by
  intro m
  induction m with
  | zero =>
    intro k ρ c h hk
    exact ⟨h, v_mv.rf, rfl, fun _ _ => rfl, fun i h1 h2 => by omega⟩
  | succ m ih =>
    intro k ρ c h hk
    have hkn : k < v_n ρ := by omega
    by_cases hp : v_L ρ k 6 = 0 ∧ v_L ρ k 7 = nI r
    · have e : m_rollL r (m + 1) k ρ c = m_rollL r m (k + 1) (m_receive ρ r k) (c + 1) := by
        show (if v_L ρ k 6 = 0 ∧ v_L ρ k 7 = nI r then _ else _) = _
        rw [if_pos hp]
      rw [e]
      have hrow := h.2.1 k hkn
      have hm := h.free hkn (g_line0 (Or.inl hp.1))
      have hdry := hrow.dry (by rw [hp.1]; decide)
      obtain ⟨s1, s2, s3, -⟩ := m_recv_st hm hr hrow.1 hdry
      have mv := m_recv_mv hm hr hrow.1 hdry (by rw [hp.1]; decide) (by rw [hp.1]; decide)
      obtain ⟨a1, a2, a3, a4, a5⟩ := ih (k + 1) (m_receive ρ r k) (c + 1) s1 (by rw [mv.1]; omega)
      refine ⟨a1, mv.tr a2, ?_, fun i hi => ?_, fun i h1 h2 => ?_⟩
      · rw [a3]
        show _ = m_fold _ m (k + 1) (if v_L ρ k 6 = 0 ∧ v_L ρ k 7 = nI r then c + 1 else c)
        rw [if_pos hp]
        refine m_fold_cg _ _ _ (fun i c h1 h2 => ?_)
        rw [s2 i (by omega)]
      · rw [a4 i (by omega), s2 i (by omega)]
      · by_cases z : i = k
        · subst z
          rw [a4 i (by omega)]
          exact fun y => (g_p12 s3).1 y.1
        · exact a5 i (by omega) (by rw [mv.1]; exact h2)
    · have e : m_rollL r (m + 1) k ρ c = m_rollL r m (k + 1) ρ c := by
        show (if v_L ρ k 6 = 0 ∧ v_L ρ k 7 = nI r then _ else _) = _
        rw [if_neg hp]
      rw [e]
      obtain ⟨a1, a2, a3, a4, a5⟩ := ih (k + 1) ρ c h (by omega)
      refine ⟨a1, a2, ?_, fun i hi => a4 i (by omega), fun i h1 h2 => ?_⟩
      · rw [a3]
        show _ = m_fold _ m (k + 1) (if v_L ρ k 6 = 0 ∧ v_L ρ k 7 = nI r then c + 1 else c)
        rw [if_neg hp]
      · by_cases z : i = k
        · subst z
          rw [a4 i (by omega)]
          exact hp
        · exact a5 i (by omega) h2
theorem m_ct_none (P : Nat → Prop) [DecidablePred P] (n : Nat) (h : ∀ i, i < n → ¬ P i) : m_ct P n = 0 := by
  have := m_ct_pos P n
  by_cases z : 0 < m_ct P n
  · obtain ⟨i, hi, hp⟩ := this.mp z
    exact absurd hp (h i hi)
  · omega
theorem m_roll_st {ω : wS} (h : v_inv (w_ρ ω)) {r : Nat} (hr : r < 6) : v_inv (m_roll (w_ρ ω) r).1 ∧ v_mv (w_ρ ω) (m_roll (w_ρ ω) r).1 ∧ (m_roll (w_ρ ω) r).2 = m_atR ω (nI r) 0 ∧ m_atR (w_sV ω (m_roll (w_ρ ω) r).1) (nI r) 0 = 0 := by
  obtain ⟨a1, a2, a3, a4, a5⟩ := m_rollL_st r hr (v_n (w_ρ ω)) 0 (w_ρ ω) 0 h (by omega)
  refine ⟨a1, a2, a3, ?_⟩
  have e : m_atR (w_sV ω (m_roll (w_ρ ω) r).1) (nI r) 0 = nI (m_ct (fun i => v_L (m_roll (w_ρ ω) r).1 i 6 = 0 ∧ v_L (m_roll (w_ρ ω) r).1 i 7 = nI r) (v_n (m_roll (w_ρ ω) r).1)) := m_fold_ct0 _ _ (fun i c => rfl) _
  have z : m_ct (fun i => v_L (m_roll (w_ρ ω) r).1 i 6 = 0 ∧ v_L (m_roll (w_ρ ω) r).1 i 7 = nI r) (v_n (m_roll (w_ρ ω) r).1) = 0 := m_ct_none _ _ (fun i hi => a5 i (Nat.zero_le _) (by rw [← a2.1]; exact hi))
  rw [e, z]
  rfl
/-- the highest stroke of each log of a jam is cut away -/
theorem m_lgs_st : ∀ (js : List Nat) (ρ : vR), v_inv ρ → (∀ i ∈ js, i < v_n ρ) → v_inv (m_lgs ρ js) ∧ v_mv ρ (m_lgs ρ js) := by
  intro js
  induction js with
  | nil => exact fun ρ h _ => ⟨h, v_mv.rf⟩
  | cons i js ih =>
    intro ρ h hm
    have hi := hm i List.mem_cons_self
    have hrow := h.2.1 i hi
    obtain ⟨s1, s2⟩ := g_s6 hrow.1.2.2.2
    have ef : ∀ f, f ≠ 4 → v_L (v_sL ρ i 4 (m_lgk 6 (v_L ρ i 4))) i f = v_L ρ i f := fun f hf => v_L_nf hf
    have e4 : v_L (v_sL ρ i 4 (m_lgk 6 (v_L ρ i 4))) i 4 = m_lgk 6 (v_L ρ i 4) := v_L_eq
    have h1 : v_inv (v_sL ρ i 4 (m_lgk 6 (v_L ρ i 4))) := h.but rfl rfl (fun j hj => by
      by_cases e : j = i
      · subst e
        refine ⟨?_, ?_, ?_⟩
        · unfold g_bd
          rw [ef 1 (by decide), ef 2 (by decide), ef 3 (by decide), e4]
          exact ⟨hrow.1.1, hrow.1.2.1, hrow.1.2.2.1, s1⟩
        · unfold g_wt
          rw [ef 5 (by decide), ef 6 (by decide), ef 1 (by decide)]
          exact hrow.2.1
        · unfold g_pl
          rw [ef 6 (by decide), ef 7 (by decide), ef 9 (by decide)]
          exact hrow.2.2
      · rw [v_L_ne e]
        exact h.2.1 j hj) (fun j hj => by
      by_cases e : j = i
      · subst e
        unfold g_line
        rw [ef 6 (by decide), ef 7 (by decide), ef 9 (by decide)]
      · rw [v_L_ne e])
    have h2 : v_mv ρ (v_sL ρ i 4 (m_lgk 6 (v_L ρ i 4))) := v_mv.one rfl rfl rfl (fun j hj => v_L_ne hj) ⟨⟨fun _ => ef 6 (by decide), fun z => by rw [ef 6 (by decide)]; exact z, by rw [e4]; exact s2⟩, by rw [ef 6 (by decide)], fun _ => ⟨ef 10 (by decide), ef 9 (by decide)⟩⟩
    obtain ⟨a, b⟩ := ih _ h1 (fun j hj => hm j (List.mem_cons_of_mem _ hj))
    exact ⟨a, h2.tr b⟩
theorem m_blast_st {ω : wS} (h : v_inv (w_ρ ω)) {r q : Nat} (hr : r < 6) (hq : q ∈ v_Q (w_ρ ω) (6 + r)) : v_inv (w_ρ (m_blast ω r q)) ∧ v_mv (w_ρ ω) (w_ρ (m_blast ω r q)) ∧ v_L (w_ρ (m_blast ω r q)) q 6 = 10 := by
  show v_inv (m_break (m_blast2 (w_ρ ω) r q) r) ∧ v_mv (w_ρ ω) (m_break (m_blast2 (w_ρ ω) r q) r) ∧ v_L (m_break (m_blast2 (w_ρ ω) r q) r) q 6 = 10
  unfold m_blast2
  generalize w_ρ ω = ρ at h hq
  obtain ⟨hqn, h6, h7⟩ := h.on2 hr hq
  have hrow := h.2.1 q hqn
  have hm := ((h.off hqn (g_line2 h6 h7 hr)).sL 6 10).sL 7 (-1)
  have eb : m_blast1 ρ r q = v_sL (v_sL (v_sQ ρ (6 + r) (m_rm (v_Q ρ (6 + r)) q)) q 6 10) q 7 (-1) := rfl
  rw [← eb] at hm
  have e7 : v_L (m_blast1 ρ r q) q 7 = -1 := by
    rw [eb, v_L_eq]
  have e6 : v_L (m_blast1 ρ r q) q 6 = 10 := by
    rw [eb, v_L_nf (by decide), v_L_eq]
  have ef : ∀ f, f ≠ 7 → f ≠ 6 → v_L (m_blast1 ρ r q) q f = v_L ρ q f := fun f a b => by
    rw [eb, v_L_nf a, v_L_nf b]
    rfl
  have h1 : v_inv (m_blast1 ρ r q) := hm.done (g_row_of hrow.1 (hrow.dry (by rw [h6]; decide)) (ef 1 (by decide) (by decide)) (ef 2 (by decide) (by decide)) (ef 3 (by decide) (by decide)) (by rw [ef 4 (by decide) (by decide)]; exact hrow.1.2.2.2) (ef 5 (by decide) (by decide)) (Or.inr (Or.inl ⟨Or.inr (Or.inr e6), e7⟩))) (g_line0 (by rw [e6]; decide))
  have m1 : v_mv ρ (m_blast1 ρ r q) := v_mv.one rfl rfl rfl (fun j hj => by
    rw [eb, v_L_ne hj, v_L_ne hj]
    rfl) (g_mv.of (by rw [h6]; decide) (by rw [h6]; decide) (by rw [e6]; decide) (by rw [e6]; decide) (by rw [ef 4 (by decide) (by decide)]; exact Int32.and_self))
  obtain ⟨h2, m2⟩ := m_lgs_st (m_rm (v_Q ρ (6 + r)) q) (m_blast1 ρ r q) h1 (fun i hi => (h.on2 hr (m_rm_mem.mp hi).1).1)
  obtain ⟨h3, m3, -⟩ := m_break_st h2 hr
  refine ⟨h3, (m1.tr m2).tr m3, ?_⟩
  have := ((m2.tr m3).2.2.2 q).1.1 (by rw [e6]; decide)
  rw [this, e6]
/-- a storm -/
theorem m_stm_st : ∀ (m : Nat) (ρ : vR), v_inv ρ → m ≤ (v_Q ρ 12).length → v_inv (m_stm m ρ) ∧ v_mv ρ (m_stm m ρ) ∧ (v_Q (m_stm m ρ) 12).length + m = (v_Q ρ 12).length := by
  intro m
  induction m with
  | zero => exact fun ρ h _ => ⟨h, v_mv.rf, rfl⟩
  | succ m ih =>
    intro ρ h hm
    have hne : v_Q ρ 12 ≠ [] := fun z => by rw [z] at hm; exact absurd hm (by simp)
    have hcut := List.dropLast_concat_getLast hne
    have hlast : (v_Q ρ 12).getLast? = some ((v_Q ρ 12).getLast hne) := List.getLast?_eq_some_getLast hne
    generalize (v_Q ρ 12).getLast hne = i at hcut hlast
    have e : m_stm (m + 1) ρ = m_stm m (m_strand (v_sQ ρ 12 (v_Q ρ 12).dropLast) i) := by
      show (match (v_Q ρ 12).getLast? with | none => m_stm m ρ | some i => m_stm m (m_strand (v_sQ ρ 12 (v_Q ρ 12).dropLast) i)) = _
      rw [hlast]
    rw [e]
    have hi : i ∈ v_Q ρ 12 := by
      rw [← hcut]
      exact List.mem_append_right _ (List.mem_singleton.mpr rfl)
    obtain ⟨hin, h6⟩ := h.on5 hi
    have hrow := h.2.1 i hin
    have hrm : m_rm (v_Q ρ 12) i = (v_Q ρ 12).dropLast := by
      have hd := h.nodup (q := 12) (by decide)
      rw [← hcut] at hd
      have := m_rm_mid hd
      rw [hcut, List.append_nil] at this
      exact this
    have hoff := h.off hin (g_line5 h6)
    rw [hrm] at hoff
    have hdry := hrow.dry (by rw [h6]; decide)
    have n8 : ¬ 8 < v_L (v_sQ ρ 12 (v_Q ρ 12).dropLast) i 6 := by rw [show v_L (v_sQ ρ 12 (v_Q ρ 12).dropLast) i 6 = 5 from h6]; decide
    have n8' : ¬ v_L (v_sQ ρ 12 (v_Q ρ 12).dropLast) i 6 = 8 := by rw [show v_L (v_sQ ρ 12 (v_Q ρ 12).dropLast) i 6 = 5 from h6]; decide
    obtain ⟨s1, -, -, -⟩ := m_strand_st hoff hrow.1 hdry
    have mv := m_strand_mv hoff hrow.1 hdry n8 n8'
    have hl : (v_Q (m_strand (v_sQ ρ 12 (v_Q ρ 12).dropLast) i) 12).length + 1 = (v_Q ρ 12).length := by
      show (v_Q (v_sQ ρ 12 (v_Q ρ 12).dropLast) 12).length + 1 = _
      rw [v_Q_sQ, if_pos rfl, List.length_dropLast]
      omega
    obtain ⟨a1, a2, a3⟩ := ih _ s1 (by omega)
    exact ⟨a1, ((v_mv.sQ _ _).tr mv).tr a2, by omega⟩
