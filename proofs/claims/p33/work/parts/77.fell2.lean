/-! ===== felling ===== -/
theorem g_lim0 : ∀ k : Nat, k < 3 → (0 : Int32) < m_lim (nI k) := by decide
theorem m_fell_row {k l g s : Int32} {r : Nat} (hk : ¬ k < 0 ∧ k < 3) (hl : 3 ≤ l ∧ l < 10) (hg : 1 ≤ g ∧ g < 10) (hs : ¬ s < 0 ∧ s < 64) (hr : r < 6) : g_row (m_fellF k l g s (nI r)) := by
  have e1 : m_fellF k l g s (nI r) 1 = k := rfl
  have e2 : m_fellF k l g s (nI r) 2 = l := rfl
  have e3 : m_fellF k l g s (nI r) 3 = g := rfl
  have e4 : m_fellF k l g s (nI r) 4 = s := rfl
  have e5 : m_fellF k l g s (nI r) 5 = 0 := rfl
  have e6 : m_fellF k l g s (nI r) 6 = 0 := rfl
  have e7 : m_fellF k l g s (nI r) 7 = nI r := rfl
  refine ⟨?_, ?_, Or.inl ⟨Or.inl e6, r, hr, e7⟩⟩
  · unfold g_bd
    rw [e1, e2, e3, e4]
    exact ⟨hk, hl, hg, hs⟩
  · unfold g_wt
    rw [e5, e1]
    obtain ⟨k', hk', rfl, -⟩ := m_small (k := 3) hk (by decide)
    exact ⟨by decide, by decide, Or.inr (g_lim0 k' hk')⟩
theorem w_inv.fell {ω : wS} {t M D C o r : Nat} {B : Int} {k l g : Int32} (h : w_inv ω t M D C B) (hn : v_n (w_ρ ω) < 40) (ho : o < 4) (hr : r < 6) (hk : ¬ k < 0 ∧ k < 3) (hl : 3 ≤ l ∧ l < 10) (hg : 1 ≤ g ∧ g < 10) : w_inv (m_fell ω o (nI r) k l g) t M D C B := by
  have hrow := m_fell_row hk hl hg (h.mrk o ho) hr
  have hi := h.riv.grow hn hrow rfl
  have eL : ∀ i, i < v_n (w_ρ ω) → v_L (w_ρ (m_fell ω o (nI r) k l g)) i = v_L (w_ρ ω) i := fun i hi => by
    funext f
    show (if i = v_n (w_ρ ω) then _ else v_L (w_ρ ω) i f) = _
    rw [if_neg (by omega)]
  have eN : v_L (w_ρ (m_fell ω o (nI r) k l g)) (v_n (w_ρ ω)) 6 = 0 := by
    show (if v_n (w_ρ ω) = v_n (w_ρ ω) then m_fellF k l g (w_O ω o 0) (nI r) 6 else _) = _
    rw [if_pos rfl]
    rfl
  refine ⟨hi, h.wat, ⟨fun i hi' h8 => ?_, fun j hj hlt => ?_⟩, h.now, h.due, h.ow, h.nr, h.no, h.pay, h.wod, h.mrk, h.cst, h.crw, h.mny⟩
  · have hi2 : i < v_n (w_ρ ω) + 1 := hi'
    by_cases z : i = v_n (w_ρ ω)
    · rw [z, eN] at h8
      exact absurd h8 (by decide)
    · rw [eL i (by omega)] at h8 ⊢
      exact h.rft.1 i (by omega) h8
  · obtain ⟨i, hi', h8, h10⟩ := h.rft.2 j hj hlt
    refine ⟨i, by show i < v_n (w_ρ ω) + 1; omega, ?_⟩
    rw [eL i hi']
    exact ⟨h8, h10⟩
