/-! ===== water ===== -/
theorem nI_sub {a b : Nat} (h : b ≤ a) : nI a - nI b = nI (a - b) := by
  have e : nI a = nI (a - b) + nI b := by rw [nI_add, Nat.sub_add_cancel h]
  rw [e, Int32.add_sub_cancel]
theorem zc_10 (g : Nat) : (10 : Int32) * nI g = nI (10 * g) := by
  have h : (10 : Int32) = nI 10 := by decide
  rw [h]
  exact (Int32.ofNat_mul 10 g).symm
def g_fl (w g : Nat) : Nat := if w < 10 * g then w else 10 * g
theorem m_flow_R (ρ : vR) (k : Nat) {w g : Nat} (hw : v_R ρ k 1 = nI w) (hg : v_R ρ k 2 = nI g) (hw2 : w < 1000000) (hg2 : g < 4) : (∀ r f, v_R (m_flow ρ k) r f = if r = k ∧ f = 1 then nI (w - g_fl w g) else if r = k ∧ f = 4 then nI (g_fl w g) else v_R ρ r f) := by
  intro r f
  have e : (if v_R ρ k 1 < 10 * v_R ρ k 2 then v_R ρ k 1 else 10 * v_R ρ k 2) = nI (g_fl w g) := by
    rw [hw, hg, zc_10]
    unfold g_fl
    by_cases z : w < 10 * g
    · rw [if_pos z, if_pos (nI_lt z (by omega))]
    · rw [if_neg z, if_neg (nI_nlt (by omega) (by omega))]
  have e0 : v_R (m_flow ρ k) r f = if r = k ∧ f = 1 then v_R ρ k 1 - (if v_R ρ k 1 < 10 * v_R ρ k 2 then v_R ρ k 1 else 10 * v_R ρ k 2) else if r = k ∧ f = 4 then (if v_R ρ k 1 < 10 * v_R ρ k 2 then v_R ρ k 1 else 10 * v_R ρ k 2) else v_R ρ r f := rfl
  have hle : g_fl w g ≤ w := by
    unfold g_fl
    split <;> omega
  rw [e0, e, hw, nI_sub hle]
theorem m_mv_wat {ρ : vR} {M k : Nat} (h : v_wat ρ M) (hk : k < 6) (hM : M < 200000) : v_wat (m_mv ρ k) M := by
  obtain ⟨⟨W, hW, hs⟩, hg⟩ := h
  obtain ⟨g, hg4, eg, -⟩ := m_small (k := 4) (hg k hk).1 (by decide)
  have hWk : W k ≤ M ∧ ∀ r, r < 6 → W r ≤ M := by
    have a : ∀ r, r < 6 → W r ≤ M := fun r hr => by
      match r, hr with
      | 0, _ => omega
      | 1, _ => omega
      | 2, _ => omega
      | 3, _ => omega
      | 4, _ => omega
      | 5, _ => omega
      | n + 6, z => omega
    exact ⟨a k hk, a⟩
  have hf := m_flow_R ρ k (hW k hk) eg (by omega) hg4
  have hle : g_fl (W k) g ≤ W k ∧ g_fl (W k) g ≤ 30 := by
    unfold g_fl
    split <;> omega
  generalize g_fl (W k) g = fl at hf hle
  have gates : ∀ r, r < 6 → ∀ ρ2 : vR, (∀ r f, f ≠ 1 → v_R ρ2 r f = v_R (m_flow ρ k) r f) → (¬ v_R ρ2 r 2 < 0 ∧ v_R ρ2 r 2 < 4) ∧ ¬ v_R ρ2 r 4 < 0 ∧ v_R ρ2 r 4 < 31 := fun r hr ρ2 h2 => by
    rw [h2 r 2 (by decide), h2 r 4 (by decide), hf, hf, if_neg (fun z => absurd z.2 (by decide)), if_neg (fun z => absurd z.2 (by decide)), if_neg (fun z => absurd z.2 (by decide))]
    refine ⟨(hg r hr).1, ?_⟩
    by_cases z : r = k
    · rw [if_pos ⟨z, rfl⟩]
      exact ⟨nI_pos (by omega), nI_lt (b := 31) (by omega) (by decide)⟩
    · rw [if_neg (fun y => z y.1)]
      exact (hg r hr).2
  unfold m_mv
  by_cases h5 : k < 5
  · rw [if_pos h5]
    have e1 : v_R (m_flow ρ k) (k + 1) 1 = nI (W (k + 1)) := by
      rw [hf, if_neg (fun z => absurd z.1 (by omega)), if_neg (fun z => absurd z.2 (by decide))]
      exact hW (k + 1) (by omega)
    have e4 : v_R (m_flow ρ k) k 4 = nI fl := by
      rw [hf, if_neg (fun z => absurd z.2 (by decide)), if_pos ⟨rfl, rfl⟩]
    rw [e1, e4, nI_add]
    refine ⟨⟨fun r => if r = k then W k - fl else if r = k + 1 then W (k + 1) + fl else W r, fun r hr => ?_, ?_⟩, fun r hr => gates r hr _ (fun r f hf1 => ?_)⟩
    · show v_R (v_sR (m_flow ρ k) (k + 1) 1 (nI (W (k + 1) + fl))) r 1 = nI (if r = k then W k - fl else if r = k + 1 then W (k + 1) + fl else W r)
      rw [v_R_sR]
      by_cases z1 : r = k + 1
      · rw [if_pos ⟨z1, rfl⟩, if_neg (by omega), if_pos z1]
      · rw [if_neg (fun y => z1 y.1), hf]
        by_cases z : r = k
        · rw [if_pos ⟨z, rfl⟩, if_pos z]
        · rw [if_neg (fun y => z y.1), if_neg (fun y => z y.1), if_neg z, if_neg z1]
          exact hW r hr
    · match k, h5 with
      | 0, _ => simp; omega
      | 1, _ => simp; omega
      | 2, _ => simp; omega
      | 3, _ => simp; omega
      | 4, _ => simp; omega
      | n + 5, z => omega
    · rw [v_R_sR, if_neg (fun z => hf1 z.2)]
  · rw [if_neg h5]
    obtain rfl : k = 5 := by omega
    refine ⟨⟨fun r => if r = 5 then W 5 - fl else W r, fun r hr => ?_, ?_⟩, fun r hr => gates r hr _ (fun r f _ => rfl)⟩
    · show v_R (m_flow ρ 5) r 1 = nI (if r = 5 then W 5 - fl else W r)
      rw [hf]
      by_cases z : r = 5
      · rw [if_pos ⟨z, rfl⟩, if_pos z]
      · rw [if_neg (fun y => z y.1), if_neg (fun y => z y.1), if_neg z]
        exact hW r hr
    · simp
      omega
theorem m_move_wat (j : Nat) : ∀ (ρ : vR) (M : Nat), j ≤ 6 → M < 200000 → v_wat ρ M → v_wat (m_move j ρ) M := by
  induction j with
  | zero => exact fun ρ M _ _ h => h
  | succ j ih => exact fun ρ M hj hM h => ih _ M (by omega) hM (m_mv_wat h (by omega) hM)
theorem m_wtr_wat {ρ : vR} {M m : Nat} (h : v_wat ρ M) (hM : M + m < 200000) : v_wat (m_wtr ρ (nI m)) (M + m) := by
  refine m_move_wat 6 _ _ (Nat.le_refl _) hM ?_
  obtain ⟨⟨W, hW, hs⟩, hg⟩ := h
  refine ⟨⟨fun r => if r = 0 then W 0 + m else W r, fun r hr => ?_, ?_⟩, fun r hr => ?_⟩
  · show (if r = 0 ∧ 1 = 1 then v_R ρ 0 1 + nI m else v_R ρ r 1) = nI (if r = 0 then W 0 + m else W r)
    by_cases z : r = 0
    · rw [if_pos ⟨z, rfl⟩, if_pos z, hW 0 (by decide), nI_add]
    · rw [if_neg (fun y => z y.1), if_neg z]
      exact hW r hr
  · simp
    omega
  · show (¬ (if r = 0 ∧ 2 = 1 then v_R ρ 0 1 + nI m else v_R ρ r 2) < 0 ∧ (if r = 0 ∧ 2 = 1 then v_R ρ 0 1 + nI m else v_R ρ r 2) < 4) ∧ ¬ (if r = 0 ∧ 4 = 1 then v_R ρ 0 1 + nI m else v_R ρ r 4) < 0 ∧ (if r = 0 ∧ 4 = 1 then v_R ρ 0 1 + nI m else v_R ρ r 4) < 31
    rw [if_neg (fun y => absurd y.2 (by decide)), if_neg (fun y => absurd y.2 (by decide))]
    exact hg r hr
theorem m_wtr_now (ρ : vR) (melt : Int32) : v_now (m_wtr ρ melt) = v_now ρ + 1 := by
  have mvn : ∀ (ρ : vR) (k : Nat), v_now (m_mv ρ k) = v_now ρ := fun ρ k => by
    unfold m_mv m_flow
    split <;> rfl
  have mon : ∀ (j : Nat) (ρ : vR), v_now (m_move j ρ) = v_now ρ := by
    intro j
    induction j with
    | zero => exact fun _ => rfl
    | succ j ih => exact fun ρ => (ih _).trans (mvn ρ j)
  exact mon 6 _
theorem v_wat.R {ρ ρ' : vR} {M : Nat} (h : v_wat ρ M) (e : v_R ρ' = v_R ρ) : v_wat ρ' M := by
  unfold v_wat
  rw [e]
  exact h
