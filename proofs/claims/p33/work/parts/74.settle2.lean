/-! ===== settling, whole ===== -/
theorem m_settle_st {ω : wS} {t M D C : Nat} {B A : Int} (r : Int32) (h : w_inv ω t M D C B) (hl : w_lo ω A) (hC : C ≤ 9000) (hA : A + 10000 ≤ 1000000) : ∃ c p0 p1 p2 p3, w_costs ω = nI c ∧ c ≤ C ∧ p0 + p1 + p2 + p3 ≤ c ∧ w_costs (m_settle ω r) = nI (c - p0 - p1 - p2 - p3) ∧ w_inv (m_settle ω r) t M D C B ∧ w_lo (m_settle ω r) (A + 10000) ∧ w_ρ (m_settle ω r) = w_ρ ω ∧ w_O (m_settle ω r) 0 1 = w_O ω 0 1 - nI p0 ∧ w_O (m_settle ω r) 1 1 = w_O ω 1 1 - nI p1 ∧ w_O (m_settle ω r) 2 1 = w_O ω 2 1 - nI p2 ∧ w_O (m_settle ω r) 3 1 = w_O ω 3 1 - nI p3 := by
  obtain ⟨c, hc, ec⟩ := h.cst
  by_cases hz : m_all (w_ρ ω) r 4 0 0 = 0
  · have e : m_settle ω r = ω := by
      unfold m_settle
      rw [if_pos hz]
    rw [e]
    refine ⟨c, 0, 0, 0, 0, ec, hc, by omega, ec, h, fun o => ?_, rfl, ?_, ?_, ?_, ?_⟩
    · have := hl o
      omega
    all_goals rw [nI_0, Int32.sub_zero]
  · obtain ⟨s0, h0, e0⟩ := m_shb_in h.riv (nI 0) r
    obtain ⟨s1, h1, e1⟩ := m_shb_in h.riv (nI 1) r
    obtain ⟨s2, h2, e2⟩ := m_shb_in h.riv (nI 2) r
    obtain ⟨s3, h3, e3⟩ := m_shb_in h.riv (nI 3) r
    have ea : m_all (w_ρ ω) r 4 0 0 = nI (s0 + s1 + s2 + s3) := by
      show 0 + m_shb (w_ρ ω) (nI 0) r + m_shb (w_ρ ω) (nI 1) r + m_shb (w_ρ ω) (nI 2) r + m_shb (w_ρ ω) (nI 3) r = _
      rw [e0, e1, e2, e3, Int32.zero_add, nI_add, nI_add, nI_add]
    have ha : 0 < s0 + s1 + s2 + s3 := by
      by_cases z : 0 < s0 + s1 + s2 + s3
      · exact z
      · have : s0 + s1 + s2 + s3 = 0 := by omega
        rw [ea, this] at hz
        exact absurd nI_0 hz
    have e : m_settle ω r = m_set1 (nI c) (nI (s0 + s1 + s2 + s3)) r 3 (m_set1 (nI c) (nI (s0 + s1 + s2 + s3)) r 2 (m_set1 (nI c) (nI (s0 + s1 + s2 + s3)) r 1 (m_set1 (nI c) (nI (s0 + s1 + s2 + s3)) r 0 ω))) := by
      unfold m_settle
      rw [if_neg hz, ea, ec]
      rfl
    have p : ∀ (k s : Nat), m_shb (w_ρ ω) (nI k) r = nI s → s ≤ s0 + s1 + s2 + s3 → m_paid (w_ρ ω) (nI c) (nI (s0 + s1 + s2 + s3)) r k = nI (c * s / (s0 + s1 + s2 + s3)) := fun k s es hs => by
      unfold m_paid
      rw [es]
      exact g_paid (by omega) hs ha (by omega)
    have p0 := p 0 s0 e0 (by omega)
    have p1 := p 1 s1 e1 (by omega)
    have p2 := p 2 s2 e2 (by omega)
    have p3 := p 3 s3 e3 (by omega)
    have hsum := g_four (c := c) ha (s0 := s0) (s1 := s1) (s2 := s2) (s3 := s3) rfl
    rw [e]
    generalize c * s0 / (s0 + s1 + s2 + s3) = q0 at p0 hsum
    generalize c * s1 / (s0 + s1 + s2 + s3) = q1 at p1 hsum
    generalize c * s2 / (s0 + s1 + s2 + s3) = q2 at p2 hsum
    generalize c * s3 / (s0 + s1 + s2 + s3) = q3 at p3 hsum
    generalize nI (s0 + s1 + s2 + s3) = al at p0 p1 p2 p3
    obtain ⟨x1, x2, x3, x4⟩ := m_set1_st (k := 0) h hl p0 ec (by omega) hc (by omega) (by omega)
    have p1' : m_paid (w_ρ (m_set1 (nI c) al r 0 ω)) (nI c) al r 1 = nI q1 := by rw [x4]; exact p1
    obtain ⟨y1, y2, y3, y4⟩ := m_set1_st (k := 1) x1 x2 p1' x3 (by omega) (by omega) (by omega) (by omega)
    have p2' : m_paid (w_ρ (m_set1 (nI c) al r 1 (m_set1 (nI c) al r 0 ω))) (nI c) al r 2 = nI q2 := by rw [y4, x4]; exact p2
    obtain ⟨z1, z2, z3, z4⟩ := m_set1_st (k := 2) y1 y2 p2' y3 (by omega) (by omega) (by omega) (by omega)
    have p3' : m_paid (w_ρ (m_set1 (nI c) al r 2 (m_set1 (nI c) al r 1 (m_set1 (nI c) al r 0 ω)))) (nI c) al r 3 = nI q3 := by rw [z4, y4, x4]; exact p3
    obtain ⟨u1, u2, u3, u4⟩ := m_set1_st (k := 3) z1 z2 p3' z3 (by omega) (by omega) (by omega) (by omega)
    refine ⟨c, q0, q1, q2, q3, ec, hc, hsum, u3, u1, fun o => ?_, by rw [u4, z4, y4, x4], ?_, ?_, ?_, ?_⟩
    · have := u2 o
      omega
    · simp only [m_set1_O, p0]
      simp
    · simp only [m_set1_O, p1']
      simp
    · simp only [m_set1_O, p2']
      simp
    · simp only [m_set1_O, p3']
      simp
