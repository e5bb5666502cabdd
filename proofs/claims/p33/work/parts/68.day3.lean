/-! ===== the invariant of the law's loop, and a day that passes ===== -/
def w_inv (ω : wS) (t M D C : Nat) (B : Int) : Prop := (v_inv (w_ρ ω)) ∧ (v_wat (w_ρ ω) M) ∧ (w_rft ω) ∧ (∃ d, d ≤ D ∧ v_now (w_ρ ω) = nI d) ∧ (w_due ω (D + 10)) ∧ (w_ow ω) ∧ (w_nr ω ≤ t) ∧ (w_no ω ≤ 6) ∧ (w_pay ω) ∧ (∀ j, j < w_nr ω → w_W ω j < w_no ω) ∧ (∀ o, o < 4 → ¬ w_O ω o 0 < 0 ∧ w_O ω o 0 < 64) ∧ (∃ c, c ≤ C ∧ w_costs ω = nI c) ∧ (∃ k, k ≤ 20 ∧ w_crew ω = nI k) ∧ (w_mb ω B)
section WINV
variable {ω : wS} {t M D C : Nat} {B : Int}
theorem w_inv.riv (h : w_inv ω t M D C B) : v_inv (w_ρ ω) := h.1
theorem w_inv.wat (h : w_inv ω t M D C B) : v_wat (w_ρ ω) M := h.2.1
theorem w_inv.rft (h : w_inv ω t M D C B) : w_rft ω := h.2.2.1
theorem w_inv.now (h : w_inv ω t M D C B) : ∃ d, d ≤ D ∧ v_now (w_ρ ω) = nI d := h.2.2.2.1
theorem w_inv.due (h : w_inv ω t M D C B) : w_due ω (D + 10) := h.2.2.2.2.1
theorem w_inv.ow (h : w_inv ω t M D C B) : w_ow ω := h.2.2.2.2.2.1
theorem w_inv.nr (h : w_inv ω t M D C B) : w_nr ω ≤ t := h.2.2.2.2.2.2.1
theorem w_inv.no (h : w_inv ω t M D C B) : w_no ω ≤ 6 := h.2.2.2.2.2.2.2.1
theorem w_inv.pay (h : w_inv ω t M D C B) : w_pay ω := h.2.2.2.2.2.2.2.2.1
theorem w_inv.wod (h : w_inv ω t M D C B) : ∀ j, j < w_nr ω → w_W ω j < w_no ω := h.2.2.2.2.2.2.2.2.2.1
theorem w_inv.mrk (h : w_inv ω t M D C B) : ∀ o, o < 4 → ¬ w_O ω o 0 < 0 ∧ w_O ω o 0 < 64 := h.2.2.2.2.2.2.2.2.2.2.1
theorem w_inv.cst (h : w_inv ω t M D C B) : ∃ c, c ≤ C ∧ w_costs ω = nI c := h.2.2.2.2.2.2.2.2.2.2.2.1
theorem w_inv.crw (h : w_inv ω t M D C B) : ∃ k, k ≤ 20 ∧ w_crew ω = nI k := h.2.2.2.2.2.2.2.2.2.2.2.2.1
theorem w_inv.mny (h : w_inv ω t M D C B) : w_mb ω B := h.2.2.2.2.2.2.2.2.2.2.2.2.2
end WINV
theorem m_pday_st {ω : wS} {t M D C m : Nat} {B : Int} (h : w_inv ω t M D C B) (hM : M + m < 100000) (hD : D < 5000) (ht : t < 100) (hB : B + 29160 * t < 2147480000) : m_drOk 6 (m_dawn (w_ρ ω) (nI m)) ∧ w_inv (m_pday ω (nI m)) t (M + m) (D + 1) (C + 20) (B + 29160 * t) ∧ (∀ i, g_mn (v_L (w_ρ ω) i) (v_L (w_ρ (m_pday ω (nI m))) i)) ∧ v_n (w_ρ (m_pday ω (nI m))) = v_n (w_ρ ω) ∧ v_now (w_ρ (m_pday ω (nI m))) = v_now (w_ρ ω) + 1 ∧ w_costs (m_pday ω (nI m)) = w_costs ω + w_crew ω ∧ w_crew (m_pday ω (nI m)) = w_crew ω ∧ w_no (m_pday ω (nI m)) = w_no ω ∧ w_mn ω (m_pday ω (nI m)) (29160 * t) ∧ ∃ k, k ≤ 240 ∧ (m_day (w_ρ ω) (nI m)).2 = nI k := by
  obtain ⟨d, hd, ed⟩ := h.now
  obtain ⟨d1, d2, d3, k, hk, ek⟩ := m_day_st h.riv (nI m)
  have hsm := m_wtr_sm (w_ρ ω) (nI m)
  have hwat := (m_wtr_wat (m := m) h.wat (by omega)).R d3.2.2.1
  have hnow : v_now (m_day (w_ρ ω) (nI m)).1 = nI (d + 1) := by rw [d3.2.1, m_wtr_now, ed, nI_1]
  have hn1 : v_n (m_day (w_ρ ω) (nI m)).1 = v_n (w_ρ ω) := d3.1.trans hsm.1
  have hrows : ∀ i, g_mv (v_L (w_ρ ω) i) (v_L (m_day (w_ρ ω) (nI m)).1 i) := fun i => by
    have := d3.2.2.2 i
    rw [hsm.2.1] at this
    exact this
  generalize hω1 : w_sV ω (m_day (w_ρ ω) (nI m)).1 = ω1
  have e1 : w_ρ ω1 = (m_day (w_ρ ω) (nI m)).1 := by rw [← hω1]; rfl
  have s1 : w_sd ω ω1 := by rw [← hω1]; exact ⟨rfl, rfl, rfl, rfl, rfl, rfl, fun _ => rfl⟩
  have o1 : ∀ o f, w_O ω1 o f = w_O ω o f := fun o f => by rw [← hω1]; rfl
  have c1 : w_costs ω1 = w_costs ω := by rw [← hω1]; rfl
  have nr1 : w_nr ω1 = w_nr ω := s1.2.2.1
  have hnr := h.nr
  have hpay1 : w_pay ω1 := fun j hj => by rw [s1.2.1]; exact h.pay j (by rw [← s1.1]; exact hj)
  have hW1 : ∀ j, j < w_nr ω1 → w_W ω1 j < w_no ω1 := fun j hj => by rw [s1.2.2.2.2.1, s1.1]; exact h.wod j (by rw [← nr1]; exact hj)
  have hB1 : w_mb ω1 B := fun o => by rw [o1]; exact h.mny o
  have hi1 : v_inv (w_ρ ω1) := by rw [e1]; exact d2
  have hBn : B + 29160 * (w_nr ω1 : Int) < 2147480000 := by omega
  obtain ⟨b1, b2, b3, b4, b5, b6, b7⟩ := m_brg_st (w_nr ω1) 0 ω1 B hi1 (by omega) hpay1 hW1 hB1 hBn
  have hs := m_brg_same (w_nr ω1) 0 ω1
  have hrft : w_rft (m_brg (w_nr ω1) 0 ω1) := by
    refine w_rft_day (D := D + 10) ed (by omega) (by omega) h.due h.rft (by omega) hi1 (by rw [e1]; exact hn1) (by rw [e1]; exact hnow) s1 (fun i => by rw [e1]; exact hrows i) hpay1 hW1 hB1 hBn
  have eω : m_pday ω (nI m) = w_sK (m_brg (w_nr ω1) 0 ω1) (w_costs (m_brg (w_nr ω1) 0 ω1) + w_crew (m_brg (w_nr ω1) 0 ω1)) := by
    rw [← hω1]
    rfl
  rw [eω]
  obtain ⟨k1, k2, k3, k4, k5, k6, k7, k8, k9⟩ := hs
  generalize m_brg (w_nr ω1) 0 ω1 = ω2 at b1 b2 b3 b4 b5 b6 b7 hrft k1 k2 k3 k4 k5 k6 k7 k8 k9
  have hmn : w_mn ω ω2 (29160 * t) := fun o => by
    have := b7 o
    rw [o1] at this
    omega
  obtain ⟨c, hc, ec⟩ := h.cst
  obtain ⟨cr, hcr, ecr⟩ := h.crw
  have ecr2 : w_crew ω2 = nI cr := by rw [k8, s1.2.2.2.2.2.1, ecr]
  have ec2 : w_costs ω2 = nI c := by rw [k9, c1, ec]
  refine ⟨d1, ?_, fun i => ?_, ?_, ?_, ?_, ?_, ?_, hmn, k, hk, ek⟩
  · refine ⟨b1, ?_, hrft, ⟨d + 1, by omega, ?_⟩, ?_, ?_, ?_, ?_, ?_, ?_, ?_, ⟨c + cr, by omega, ?_⟩, ⟨cr, hcr, ecr2⟩, h.mny.mn hmn⟩
    · show v_wat (w_ρ ω2) (M + m)
      exact (hwat.R (by rw [b3, e1]))
    · show v_now (w_ρ ω2) = _
      rw [k2, e1, hnow]
    · intro j hj
      have hj' : j < w_nr ω := by rw [← nr1, ← k5]; exact hj
      obtain ⟨e, he, ee⟩ := h.due j hj'
      refine ⟨e, by omega, ?_⟩
      show w_F ω2 j 2 = _
      rw [k6, s1.2.2.2.1, ee]
    · intro j hj
      have hj' : j < w_nr ω := by rw [← nr1, ← k5]; exact hj
      show ¬ w_F ω2 j 0 < 0 ∧ w_F ω2 j 0 < 4
      rw [k6, s1.2.2.2.1]
      exact h.ow j hj'
    · show w_nr ω2 ≤ t
      rw [k5, nr1]
      exact hnr
    · show w_no ω2 ≤ 6
      rw [k3, s1.1]
      exact h.no
    · intro j hj
      have hj' : j < w_no ω := by rw [← s1.1, ← k3]; exact hj
      show 1 ≤ w_P ω2 j 2 ∧ w_P ω2 j 2 < 10
      rw [k4, s1.2.1]
      exact h.pay j hj'
    · intro j hj
      have hj' : j < w_nr ω := by rw [← nr1, ← k5]; exact hj
      show w_W ω2 j < w_no ω2
      rw [k7, k3, s1.2.2.2.2.1, s1.1]
      exact h.wod j hj'
    · intro o ho
      show ¬ w_O ω2 o 0 < 0 ∧ w_O ω2 o 0 < 64
      rw [b4.2.2.2.2.2.2 o, o1]
      exact h.mrk o ho
    · show w_costs ω2 + w_crew ω2 = _
      rw [ec2, ecr2, nI_add]
  · have := b2 i
    rw [e1] at this
    exact (hrows i).1.tr this
  · show v_n (w_ρ ω2) = _
    rw [k1, e1, hn1]
  · show v_now (w_ρ ω2) = _
    rw [k2, e1, hnow, ed, nI_1]
  · show w_costs ω2 + w_crew ω2 = _
    rw [ec2, ecr2, ec, ecr]
  · show w_crew ω2 = _
    rw [ecr2, ecr]
  · show w_no ω2 = _
    rw [k3, s1.1]
