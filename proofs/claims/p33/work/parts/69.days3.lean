/-! ===== some days that pass ===== -/
theorem m_psL_st (t m cr : Nat) (ht : t < 100) : ∀ (k : Nat) (ω : wS) (M D C c : Nat) (B : Int), w_inv ω t M D C B → w_crew ω = nI cr → M + m * k < 100000 → D + k < 5000 → B + 29160 * t * k < 2147480000 → m_psOk k (nI m) ω ∧ w_inv (m_psL k (nI m) ω (nI c)).1 t (M + m * k) (D + k) (C + 20 * k) (B + 29160 * t * k) ∧ (∀ i, g_mn (v_L (w_ρ ω) i) (v_L (w_ρ (m_psL k (nI m) ω (nI c)).1) i)) ∧ v_n (w_ρ (m_psL k (nI m) ω (nI c)).1) = v_n (w_ρ ω) ∧ v_now (w_ρ (m_psL k (nI m) ω (nI c)).1) = v_now (w_ρ ω) + nI k ∧ w_costs (m_psL k (nI m) ω (nI c)).1 = w_costs ω + nI (cr * k) ∧ w_crew (m_psL k (nI m) ω (nI c)).1 = nI cr ∧ w_no (m_psL k (nI m) ω (nI c)).1 = w_no ω ∧ w_mn ω (m_psL k (nI m) ω (nI c)).1 (29160 * t * k) ∧ ∃ k', k' ≤ c + 240 * k ∧ (m_psL k (nI m) ω (nI c)).2 = nI k' := by
  intro k
  induction k with
  | zero =>
    intro ω M D C c B h hcr _ _ _
    refine ⟨trivial, ?_, fun _ => g_mn.rf, rfl, ?_, ?_, hcr, rfl, ?_, c, by omega, rfl⟩
    · have e1 : M + m * 0 = M := by omega
      have e2 : B + 29160 * (t : Int) * ((0 : Nat) : Int) = B := by omega
      rw [e1, e2]
      exact h
    · show v_now (w_ρ ω) = v_now (w_ρ ω) + nI 0
      rw [nI_0, Int32.add_zero]
    · show w_costs ω = w_costs ω + nI (cr * 0)
      rw [Nat.mul_zero, nI_0, Int32.add_zero]
    · exact w_mn.rf.le (by omega)
  | succ k ih =>
    intro ω M D C c B h hcr hM hD hB
    have em : m * (k + 1) = m * k + m := Nat.mul_succ m k
    have ec : cr * (k + 1) = cr * k + cr := Nat.mul_succ cr k
    have eB : 29160 * (t : Int) * ((k + 1 : Nat) : Int) = 29160 * (t : Int) * (k : Int) + 29160 * (t : Int) := by
      rw [Int.natCast_add, Int.mul_add]
      simp
    have h0 : 0 ≤ 29160 * (t : Int) * (k : Int) := Int.mul_nonneg (by omega) (by omega)
    rw [eB] at hB
    obtain ⟨a1, a2, a3, a4, a5, a6, a7, a8, a9, k1, hk1, ek1⟩ := m_pday_st (m := m) h (by omega) (by omega) ht (by omega)
    obtain ⟨b1, b2, b3, b4, b5, b6, b7, b8, b9, k2, hk2, ek2⟩ := ih (m_pday ω (nI m)) (M + m) (D + 1) (C + 20) (c + k1) (B + 29160 * t) a2 (by rw [a7, hcr]) (by omega) (by omega) (by omega)
    have e : m_psL (k + 1) (nI m) ω (nI c) = m_psL k (nI m) (m_pday ω (nI m)) (nI (c + k1)) := by
      show m_psL k (nI m) (m_pday ω (nI m)) (nI c + (m_day (w_ρ ω) (nI m)).2) = _
      rw [ek1, nI_add]
    rw [e]
    refine ⟨⟨a1, h.ow, b1⟩, ?_, fun i => (a3 i).tr (b3 i), b4.trans a4, ?_, ?_, b7, b8.trans a8, ?_, k2, by omega, ek2⟩
    · have e1 : M + m * (k + 1) = M + m + m * k := by omega
      have e2 : D + (k + 1) = D + 1 + k := by omega
      have e3 : C + 20 * (k + 1) = C + 20 + 20 * k := by omega
      have e4 : B + 29160 * (t : Int) * ((k + 1 : Nat) : Int) = B + 29160 * (t : Int) + 29160 * (t : Int) * (k : Int) := by
        rw [eB]
        omega
      rw [e1, e2, e3, e4]
      exact b2
    · rw [b5, a5, Int32.add_assoc]
      have : (1 : Int32) + nI k = nI (k + 1) := zc_1k k
      rw [this]
    · rw [b6, a6, hcr, Int32.add_assoc, nI_add, ec, Nat.add_comm]
    · rw [eB]
      exact (a9.tr b9).le (by omega)
