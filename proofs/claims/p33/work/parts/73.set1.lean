/-! ===== settling ===== -/
def w_lo (ω : wS) (A : Int) : Prop := ∀ o, -A ≤ (w_O ω o 1).toInt
theorem m_set1_O (ahead all r : Int32) (k : Nat) (ω : wS) (o f : Nat) : w_O (m_set1 ahead all r k ω) o f = if o = k ∧ f = 1 then w_O ω k 1 - m_paid (w_ρ ω) ahead all r k else w_O ω o f := (rfl)
theorem m_set1_c (ahead all r : Int32) (k : Nat) (ω : wS) : w_costs (m_set1 ahead all r k ω) = w_costs ω - m_paid (w_ρ ω) ahead all r k := (rfl)
theorem m_set1_st {ω : wS} {t M D C k p c : Nat} {B A : Int} {ahead all r : Int32} (h : w_inv ω t M D C B) (hl : w_lo ω A) (hp : m_paid (w_ρ ω) ahead all r k = nI p) (hc : w_costs ω = nI c) (hpc : p ≤ c) (hc2 : c ≤ C) (hp2 : p ≤ 10000) (hA : A + p ≤ 1000000) : w_inv (m_set1 ahead all r k ω) t M D C B ∧ w_lo (m_set1 ahead all r k ω) (A + p) ∧ w_costs (m_set1 ahead all r k ω) = nI (c - p) ∧ w_ρ (m_set1 ahead all r k ω) = w_ρ ω := by
  have key : ∀ o, -A - p ≤ (w_O (m_set1 ahead all r k ω) o 1).toInt ∧ (w_O (m_set1 ahead all r k ω) o 1).toInt ≤ (w_O ω o 1).toInt := fun o => by
    have h1 := hl k
    have h2 := (w_O ω k 1).toInt_lt
    have h3 := hl o
    rw [m_set1_O]
    by_cases z : o = k
    · rw [if_pos ⟨z, rfl⟩, hp, z]
      have e := nI_toInt (n := p) (by omega)
      have e2 : (w_O ω k 1 - nI p).toInt = (w_O ω k 1).toInt - (nI p).toInt := g_sub (by omega) (by omega)
      rw [e2, e]
      omega
    · rw [if_neg (fun y => z y.1)]
      omega
  refine ⟨h.deed (ω' := m_set1 ahead all r k ω) h.riv v_mv.rf ⟨rfl, rfl, rfl, rfl, rfl, rfl, fun o => ?_⟩ (fun o => ?_) ⟨c - p, by omega, ?_⟩, fun o => ?_, ?_, rfl⟩
  · rw [m_set1_O, if_neg (fun z => absurd z.2 (by decide))]
  · have := key o
    have := (h.mny o).2
    omega
  · rw [m_set1_c, hc, hp, nI_sub hpc]
  · have := key o
    omega
  · rw [m_set1_c, hc, hp, nI_sub hpc]
