/-! ===== the rafts that come ===== -/
theorem m_brg1_st {ω : wS} {k : Nat} {B : Int} (h : v_inv (w_ρ ω)) (hp : 1 ≤ w_P ω (w_W ω k) 2 ∧ w_P ω (w_W ω k) 2 < 10) (hB : w_mb ω B) (hB2 : B + 29160 < 2147480000) : v_inv (w_ρ (m_brg1 k ω)) ∧ (∀ i, g_mn (v_L (w_ρ ω) i) (v_L (w_ρ (m_brg1 k ω)) i)) ∧ v_R (w_ρ (m_brg1 k ω)) = v_R (w_ρ ω) ∧ w_sd ω (m_brg1 k ω) ∧ (∀ i, v_L (w_ρ (m_brg1 k ω)) i = v_L (w_ρ ω) i ∨ (v_L (w_ρ ω) i 6 = 8 ∧ (v_L (w_ρ ω) i 10 = nI k ∧ w_F ω k 2 = v_now (w_ρ ω)) ∧ v_L (w_ρ (m_brg1 k ω)) i 6 = 9)) ∧ (w_F ω k 2 = v_now (w_ρ ω) → ∀ i, i < v_n (w_ρ ω) → ¬ (v_L (w_ρ (m_brg1 k ω)) i 6 = 8 ∧ v_L (w_ρ (m_brg1 k ω)) i 10 = nI k)) ∧ w_mn ω (m_brg1 k ω) 29160 := by
  by_cases hc : w_F ω k 2 = v_now (w_ρ ω)
  · have e : m_brg1 k ω = m_unl k (v_n (w_ρ ω)) 0 ω := by
      unfold m_brg1
      rw [if_pos hc]
    rw [e]
    have h40 := h.1
    obtain ⟨a1, a2, a3, a4, a5, -, a7, a8⟩ := m_unl_st k (v_n (w_ρ ω)) 0 ω B h (by omega) hp hB (by omega)
    exact ⟨a1, a2, a3, a4, fun i => (a5 i).imp id (fun z => ⟨z.1, ⟨z.2.1, hc⟩, z.2.2⟩), fun _ i hi => a7 i (Nat.zero_le _) (by omega), a8.le (by omega)⟩
  · have e : m_brg1 k ω = ω := by
      unfold m_brg1
      rw [if_neg hc]
    rw [e]
    exact ⟨h, fun _ => g_mn.rf, rfl, w_sd.rf, fun _ => Or.inl rfl, fun z => absurd z hc, w_mn.rf.le (by decide)⟩
theorem m_brg_st : ∀ (m k : Nat) (ω : wS) (B : Int), v_inv (w_ρ ω) → k + m ≤ w_nr ω → w_pay ω → (∀ j, j < w_nr ω → w_W ω j < w_no ω) → w_mb ω B → B + 29160 * m < 2147480000 → v_inv (w_ρ (m_brg m k ω)) ∧ (∀ i, g_mn (v_L (w_ρ ω) i) (v_L (w_ρ (m_brg m k ω)) i)) ∧ v_R (w_ρ (m_brg m k ω)) = v_R (w_ρ ω) ∧ w_sd ω (m_brg m k ω) ∧ (∀ i, v_L (w_ρ (m_brg m k ω)) i = v_L (w_ρ ω) i ∨ (v_L (w_ρ ω) i 6 = 8 ∧ (∃ j, j < w_nr ω ∧ v_L (w_ρ ω) i 10 = nI j ∧ w_F ω j 2 = v_now (w_ρ ω)) ∧ v_L (w_ρ (m_brg m k ω)) i 6 = 9)) ∧ (∀ j, k ≤ j → j < k + m → w_F ω j 2 = v_now (w_ρ ω) → ∀ i, i < v_n (w_ρ ω) → ¬ (v_L (w_ρ (m_brg m k ω)) i 6 = 8 ∧ v_L (w_ρ (m_brg m k ω)) i 10 = nI j)) ∧ w_mn ω (m_brg m k ω) (29160 * m) := by
  intro m
  induction m with
  | zero => exact fun k ω B h _ _ _ _ _ => ⟨h, fun _ => g_mn.rf, rfl, w_sd.rf, fun _ => Or.inl rfl, fun j h1 h2 => by omega, w_mn.rf.le (by omega)⟩
  | succ m ih =>
    intro k ω B h hk hp hW hB hB2
    obtain ⟨a1, a2, a3, a4, a5, a6, a7⟩ := m_brg1_st (k := k) h (hp _ (hW k (by omega))) hB (by omega)
    have hs := m_brg1_same k ω
    obtain ⟨c1, c2, c3, c4, c5, c6, c7, -⟩ := hs
    obtain ⟨b1, b2, b3, b4, b5, b6, b7⟩ := ih (k + 1) (m_brg1 k ω) (B + 29160) a1 (by rw [c5]; omega) (fun j hj => by rw [c4]; exact hp j (by rw [← c3]; exact hj)) (fun j hj => by rw [c7, c3]; exact hW j (by rw [← c5]; exact hj)) (hB.mn a7) (by omega)
    rw [c6, c2] at b6
    rw [c6, c2, c5] at b5
    rw [c1] at b6
    have e : m_brg (m + 1) k ω = m_brg m (k + 1) (m_brg1 k ω) := rfl
    rw [e]
    refine ⟨b1, fun i => (a2 i).tr (b2 i), b3.trans a3, a4.tr b4, fun i => ?_, fun j h1 h2 hd i hi => ?_, (a7.tr b7).le (by omega)⟩
    · rcases a5 i with z | ⟨z6, ⟨z10, zd⟩, z9⟩
      · have y := b5 i
        rw [z] at y
        exact y
      · refine Or.inr ⟨z6, ⟨k, by omega, z10, zd⟩, ?_⟩
        rcases b5 i with y | ⟨y6, -, -⟩
        · rw [y]
          exact z9
        · rw [z9] at y6
          exact absurd y6 (by decide)
    · by_cases z : j = k
      · subst z
        rcases b5 i with y | ⟨-, -, y9⟩
        · rw [y]
          exact a6 hd i hi
        · rw [y9]
          exact fun y => absurd y.1 (by decide)
      · exact b6 j (by omega) (by omega) hd i hi
/-- the due days are small -/
def w_due (ω : wS) (D : Nat) : Prop := ∀ j, j < w_nr ω → ∃ e, e < D ∧ w_F ω j 2 = nI e
/-- a day's rafts: after the day, those under way carry logs, and no others do -/
theorem w_rft_day {ω ω1 : wS} {d D : Nat} {B : Int} (hd : v_now (w_ρ ω) = nI d) (hd1 : d < 10000) (hD : D < 100000) (hdue : w_due ω D) (h : w_rft ω) (hnr : w_nr ω < 1000) (h1 : v_inv (w_ρ ω1)) (hn : v_n (w_ρ ω1) = v_n (w_ρ ω)) (hnow : v_now (w_ρ ω1) = nI (d + 1)) (hsd : w_sd ω ω1) (hL : ∀ i, g_mv (v_L (w_ρ ω) i) (v_L (w_ρ ω1) i)) (hpay : w_pay ω1) (hW : ∀ j, j < w_nr ω1 → w_W ω1 j < w_no ω1) (hB : w_mb ω1 B) (hB2 : B + 29160 * (w_nr ω1 : Int) < 2147480000) : w_rft (m_brg (w_nr ω1) 0 ω1) := by
  obtain ⟨-, -, -, b4, b5, b6, -⟩ := m_brg_st (w_nr ω1) 0 ω1 B h1 (by omega) hpay hW hB hB2
  have hs := m_brg_same (w_nr ω1) 0 ω1
  obtain ⟨c1, c2, c3, c4, c5, c6, c7, -⟩ := hs
  obtain ⟨r1, r2⟩ := h
  have enr : w_nr ω1 = w_nr ω := hsd.2.2.1
  have eF : w_F ω1 = w_F ω := hsd.2.2.2.1
  unfold w_rft
  rw [c1, c2, c5, c6, hn, enr, eF, hnow]
  rw [hn, enr, eF, hnow] at b6
  rw [enr, eF, hnow] at b5
  have lt : ∀ e, e < D → (nI d < nI e ↔ d < e) := fun e he => nI_ltI (by omega) (by omega)
  have lt1 : ∀ e, e < D → (nI (d + 1) < nI e ↔ d + 1 < e) := fun e he => nI_ltI (by omega) (by omega)
  refine ⟨fun i hi h8 => ?_, fun j hj hlt => ?_⟩
  · rcases b5 i with y | ⟨-, -, y9⟩
    · rw [y] at h8 ⊢
      have g := hL i
      have h8' := g.2.1.mpr h8
      obtain ⟨j, hj, h10, hlt⟩ := r1 i hi h8'
      have e10 : v_L (w_ρ ω1) i 10 = nI j := (g.2.2 h8').1.trans h10
      refine ⟨j, hj, e10, ?_⟩
      obtain ⟨e, he, ee⟩ := hdue j hj
      rw [hd, ee] at hlt
      have h3 := (lt e he).mp hlt
      rw [ee]
      refine (lt1 e he).mpr ?_
      have hne : e ≠ d + 1 := fun z => by
        have := b6 j (Nat.zero_le _) (by omega) (by rw [ee, z]) i hi
        rw [y] at this
        exact this ⟨h8, e10⟩
      omega
    · rw [y9] at h8
      exact absurd h8 (by decide)
  · obtain ⟨e, he, ee⟩ := hdue j hj
    have hlt' := hlt
    rw [ee] at hlt'
    have h3 := (lt1 e he).mp hlt'
    obtain ⟨i, hi, h8, h10⟩ := r2 j hj (by rw [hd, ee]; exact (lt e he).mpr (by omega))
    have g := hL i
    have h8' := g.2.1.mp h8
    have e10 : v_L (w_ρ ω1) i 10 = nI j := (g.2.2 h8).1.trans h10
    refine ⟨i, hi, ?_⟩
    rcases b5 i with y | ⟨-, ⟨j', hj', y10, yd⟩, -⟩
    · rw [y]
      exact ⟨h8', e10⟩
    · rw [e10] at y10
      have ej := (nI_eq (a := j) (b := j') (by omega) (by omega)).mp y10
      rw [← ej, ee] at yd
      have := (nI_eq (a := e) (b := d + 1) (by omega) (by omega)).mp yd
      omega
