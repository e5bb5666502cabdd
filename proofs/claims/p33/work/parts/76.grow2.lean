/-! ===== felling, money's sum ===== -/
/-- a log is felled -/
theorem v_inv.grow {ρ : vR} {F : Nat → Int32} (h : v_inv ρ) (hn : v_n ρ < 40) (hF : g_row F) (h0 : F 6 = 0) : v_inv (v_grow ρ F) := by
  obtain ⟨h1, h2, h3⟩ := h
  have eL : ∀ i, i ≠ v_n ρ → v_L (v_grow ρ F) i = v_L ρ i := fun i hi => by
    funext f
    show (if i = v_n ρ then F f else v_L ρ i f) = _
    rw [if_neg hi]
  have eN : v_L (v_grow ρ F) (v_n ρ) = F := by
    funext f
    show (if v_n ρ = v_n ρ then F f else v_L ρ (v_n ρ) f) = _
    rw [if_pos rfl]
  refine ⟨by show v_n ρ + 1 ≤ 40; omega, fun i hi => ?_, fun q hq => ⟨(h3 q hq).1, fun i => ?_⟩⟩
  · have hi' : i < v_n ρ + 1 := hi
    by_cases z : i = v_n ρ
    · rw [z, eN]
      exact hF
    · rw [eL i z]
      exact h2 i (by omega)
  · show i ∈ v_Q ρ q ↔ (i < v_n ρ + 1 ∧ i ≠ v_n ρ + 1 ∧ g_line (v_L (v_grow ρ F) i) = some q)
    rw [(h3 q hq).2 i]
    constructor
    · rintro ⟨a, b, c⟩
      rw [eL i b]
      exact ⟨by omega, by omega, c⟩
    · rintro ⟨a, b, c⟩
      by_cases z : i = v_n ρ
      · rw [z, eN, g_line0 (Or.inl h0)] at c
        cases c
      · rw [eL i z] at c
        exact ⟨by omega, z, c⟩
theorem m_mon_eq (ω : wS) : m_mon ω 4 0 0 = w_O ω 0 1 + w_O ω 1 1 + w_O ω 2 1 + w_O ω 3 1 := by
  show 0 + w_O ω 0 1 + w_O ω 1 1 + w_O ω 2 1 + w_O ω 3 1 = _
  rw [Int32.zero_add]
theorem m_mon_int {ω : wS} {B : Int} (h : w_mb ω B) (hB : B ≤ 500000000) : (m_mon ω 4 0 0).toInt = (w_O ω 0 1).toInt + (w_O ω 1 1).toInt + (w_O ω 2 1).toInt + (w_O ω 3 1).toInt := by
  have h0 := h 0
  have h1 := h 1
  have h2 := h 2
  have h3 := h 3
  have a1 : (w_O ω 0 1 + w_O ω 1 1).toInt = (w_O ω 0 1).toInt + (w_O ω 1 1).toInt := g_add (by omega) (by omega)
  have a2 : (w_O ω 0 1 + w_O ω 1 1 + w_O ω 2 1).toInt = (w_O ω 0 1 + w_O ω 1 1).toInt + (w_O ω 2 1).toInt := g_add (by omega) (by omega)
  rw [m_mon_eq, g_add (by omega) (by omega), a2, a1]
theorem m_mon_le {ω ω' : wS} {B c : Int} (h : w_mb ω B) (hB : B ≤ 500000000) (h' : w_mb ω' (B + c)) (hB' : B + c ≤ 500000000) (hm : w_mn ω ω' c) : ¬ m_mon ω' 4 0 0 < m_mon ω 4 0 0 := by
  rw [Int32.lt_iff_toInt_lt, m_mon_int h hB, m_mon_int h' hB']
  have := hm 0
  have := hm 1
  have := hm 2
  have := hm 3
  omega
