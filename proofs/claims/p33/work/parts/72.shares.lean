/-! ===== settling, the shares ===== -/
theorem g_sc4 : ∀ l : Nat, l < 10 → ∀ g : Nat, g < 10 → (¬ (nI l * nI g) < 0 ∧ nI l * nI g < 100) ∧ (¬ (nI l * nI g * nI g / 8) < 0 ∧ nI l * nI g * nI g / 8 < 100) ∧ (¬ (nI l * (if nI g - 2 < 0 then 0 else nI g - 2)) < 0 ∧ nI l * (if nI g - 2 < 0 then 0 else nI g - 2) < 100) ∧ ¬ (nI l * (if nI g - 2 < 0 then 0 else nI g - 2) / 2) < 0 ∧ nI l * (if nI g - 2 < 0 then 0 else nI g - 2) / 2 < 100 := by decide +kernel
theorem g_sc100 {l g s r : Int32} (hl : 3 ≤ l ∧ l < 10) (hg : 1 ≤ g ∧ g < 10) : ∃ v, v < 100 ∧ m_sc l g s r = nI v := by
  obtain ⟨l', h1, h2, rfl⟩ := g_in (a := 3) (b := 10) hl (by decide) (by decide)
  obtain ⟨g', h3, h4, rfl⟩ := g_in (a := 1) (b := 10) hg (by decide) (by decide)
  obtain ⟨a, b, c, d⟩ := g_sc4 l' h2 g' h4
  unfold m_sc
  split
  · obtain ⟨v, hv, e, -⟩ := m_small (k := 100) a (by decide)
    exact ⟨v, hv, e⟩
  · split
    · obtain ⟨v, hv, e, -⟩ := m_small (k := 100) b (by decide)
      exact ⟨v, hv, e⟩
    · split
      · obtain ⟨v, hv, e, -⟩ := m_small (k := 100) c (by decide)
        exact ⟨v, hv, e⟩
      · obtain ⟨v, hv, e, -⟩ := m_small (k := 100) d (by decide)
        exact ⟨v, hv, e⟩
theorem g_fold100 (g : Nat → Int32 → Int32) : ∀ (m k c : Nat), (∀ i x, k ≤ i → i < k + m → ∃ v, v < 100 ∧ g i x = x + nI v) → ∃ c', c' ≤ c + 100 * m ∧ m_fold g m k (nI c) = nI c' := by
  intro m
  induction m with
  | zero => exact fun k c _ => ⟨c, by omega, rfl⟩
  | succ m ih =>
    intro k c h
    obtain ⟨v, hv, e⟩ := h k (nI c) (by omega) (by omega)
    obtain ⟨c', hc, e'⟩ := ih (k + 1) (c + v) (fun i x h1 h2 => h i x (by omega) (by omega))
    refine ⟨c', by omega, ?_⟩
    show m_fold g m (k + 1) (g k (nI c)) = _
    rw [e, nI_add, e']
theorem m_shb_in {ρ : vR} (h : v_inv ρ) (o r : Int32) : ∃ s, s ≤ 4000 ∧ m_shb ρ o r = nI s := by
  obtain ⟨s, hs, e⟩ := g_fold100 (fun i c => if v_L ρ i 9 = o then c + m_sc (v_L ρ i 2) (v_L ρ i 3) (v_L ρ i 5) r else c) (v_n ρ) 0 0 (fun i x _ hi => by
    have hb := (h.2.1 i (by omega)).1
    by_cases z : v_L ρ i 9 = o
    · obtain ⟨v, hv, e⟩ := g_sc100 (s := v_L ρ i 5) (r := r) hb.2.1 hb.2.2.1
      exact ⟨v, hv, by show (if v_L ρ i 9 = o then _ else _) = _; rw [if_pos z, e]⟩
    · exact ⟨0, by decide, by show (if v_L ρ i 9 = o then _ else _) = _; rw [if_neg z, nI_0, Int32.add_zero]⟩)
  have := h.1
  exact ⟨s, by omega, e⟩
theorem g_four {c a s0 s1 s2 s3 : Nat} (ha : 0 < a) (hs : s0 + s1 + s2 + s3 = a) : c * s0 / a + c * s1 / a + c * s2 / a + c * s3 / a ≤ c := by
  have d : ∀ s, a * (c * s / a) ≤ c * s := fun s => Nat.mul_div_le (c * s) a
  have h0 := d s0
  have h1 := d s1
  have h2 := d s2
  have h3 := d s3
  have e : a * (c * s0 / a + c * s1 / a + c * s2 / a + c * s3 / a) ≤ a * c := by
    rw [Nat.mul_add, Nat.mul_add, Nat.mul_add, Nat.mul_comm a c, ← hs, Nat.mul_add, Nat.mul_add, Nat.mul_add, hs]
    omega
  exact Nat.le_of_mul_le_mul_left e ha
