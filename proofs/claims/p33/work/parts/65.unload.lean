/-! ===== unloading ===== -/
theorem g_pay : ∀ l : Nat, l < 10 → ∀ g : Nat, g < 10 → ∀ p : Nat, p < 10 → (0 ≤ (nI l * nI g * nI p).toInt ∧ (nI l * nI g * nI p).toInt ≤ 729) ∧ 0 ≤ (nI l * nI g * nI p / 2).toInt ∧ (nI l * nI g * nI p / 2).toInt ≤ 729 := by decide +kernel
theorem g_payd {l g s p d now : Int32} (hl : 3 ≤ l ∧ l < 10) (hg : 1 ≤ g ∧ g < 10) (hp : 1 ≤ p ∧ p < 10) : 0 ≤ (m_payd (m_sc l g s 0 * p) d now).toInt ∧ (m_payd (m_sc l g s 0 * p) d now).toInt ≤ 729 := by
  obtain ⟨l', h1, h2, rfl⟩ := g_in (a := 3) (b := 10) hl (by decide) (by decide)
  obtain ⟨g', h3, h4, rfl⟩ := g_in (a := 1) (b := 10) hg (by decide) (by decide)
  obtain ⟨p', h5, h6, rfl⟩ := g_in (a := 1) (b := 10) hp (by decide) (by decide)
  obtain ⟨a, b⟩ := g_pay l' h2 g' h4 p' h6
  have e : m_sc (nI l') (nI g') s 0 = nI l' * nI g' := by
    unfold m_sc
    rw [if_pos rfl]
  rw [e]
  unfold m_payd
  split
  · exact a
  · exact b
/-- money that only grows, and by no more than c -/
def w_mn (ω ω' : wS) (c : Int) : Prop := ∀ o, (w_O ω o 1).toInt ≤ (w_O ω' o 1).toInt ∧ (w_O ω' o 1).toInt ≤ (w_O ω o 1).toInt + c
def w_mb (ω : wS) (B : Int) : Prop := ∀ o, -1000000 ≤ (w_O ω o 1).toInt ∧ (w_O ω o 1).toInt ≤ B
theorem w_mb.mn {ω ω' : wS} {B c : Int} (h : w_mb ω B) (h' : w_mn ω ω' c) : w_mb ω' (B + c) := fun o => by
  have := h o
  have := h' o
  omega
theorem w_mn.tr {ω ω' ω'' : wS} {c d : Int} (h : w_mn ω ω' c) (h' : w_mn ω' ω'' d) : w_mn ω ω'' (c + d) := fun o => by
  have := h o
  have := h' o
  omega
theorem w_mn.rf {ω : wS} : w_mn ω ω 0 := fun o => by omega
theorem w_mn.le {ω ω' : wS} {c d : Int} (h : w_mn ω ω' c) (hd : c ≤ d) : w_mn ω ω' d := fun o => by
  have := h o
  omega
/-- orders pay from one to nine -/
def w_pay (ω : wS) : Prop := ∀ j, j < w_no ω → 1 ≤ w_P ω j 2 ∧ w_P ω j 2 < 10
theorem m_unl1_st {ω : wS} {j k : Nat} {B : Int} (h : v_inv (w_ρ ω)) (hk : k < v_n (w_ρ ω)) (hp : 1 ≤ w_P ω (w_W ω j) 2 ∧ w_P ω (w_W ω j) 2 < 10) (hB : w_mb ω B) (hB2 : B < 2147480000) : v_inv (w_ρ (m_unl1 j k ω)) ∧ (∀ i, g_mn (v_L (w_ρ ω) i) (v_L (w_ρ (m_unl1 j k ω)) i)) ∧ v_R (w_ρ (m_unl1 j k ω)) = v_R (w_ρ ω) ∧ w_sd ω (m_unl1 j k ω) ∧ (∀ i, i ≠ k → v_L (w_ρ (m_unl1 j k ω)) i = v_L (w_ρ ω) i) ∧ (v_L (w_ρ (m_unl1 j k ω)) k = v_L (w_ρ ω) k ∨ (v_L (w_ρ ω) k 6 = 8 ∧ v_L (w_ρ ω) k 10 = nI j ∧ v_L (w_ρ (m_unl1 j k ω)) k 6 = 9)) ∧ ¬ (v_L (w_ρ (m_unl1 j k ω)) k 6 = 8 ∧ v_L (w_ρ (m_unl1 j k ω)) k 10 = nI j) ∧ w_mn ω (m_unl1 j k ω) 729 := by
  by_cases hc : v_L (w_ρ ω) k 6 = 8 ∧ v_L (w_ρ ω) k 10 = nI j
  · have hrow := h.2.1 k hk
    have hpd := g_payd (s := v_L (w_ρ ω) k 5) (d := w_P ω (w_W ω j) 3) (now := v_now (w_ρ ω)) hrow.1.2.1 hrow.1.2.2.1 hp
    have e : m_unl1 j k ω = w_sO (w_sV ω (v_sL (w_ρ ω) k 6 9)) (w_F ω j 0).toNatClampNeg 1 (w_O ω (w_F ω j 0).toNatClampNeg 1 + m_payd (m_sc (v_L (w_ρ ω) k 2) (v_L (w_ρ ω) k 3) (v_L (w_ρ ω) k 5) 0 * w_P ω (w_W ω j) 2) (w_P ω (w_W ω j) 3) (v_now (w_ρ ω))) := by
      unfold m_unl1
      rw [if_pos hc]
    rw [e]
    generalize m_payd (m_sc (v_L (w_ρ ω) k 2) (v_L (w_ρ ω) k 3) (v_L (w_ρ ω) k 5) 0 * w_P ω (w_W ω j) 2) (w_P ω (w_W ω j) 3) (v_now (w_ρ ω)) = pd at hpd
    generalize (w_F ω j 0).toNatClampNeg = o1
    have ef : ∀ f, f ≠ 6 → v_L (v_sL (w_ρ ω) k 6 9) k f = v_L (w_ρ ω) k f := fun f hf => v_L_nf hf
    have e6 : v_L (v_sL (w_ρ ω) k 6 9) k 6 = 9 := v_L_eq
    have ne : ∀ i, i ≠ k → v_L (v_sL (w_ρ ω) k 6 9) i = v_L (w_ρ ω) i := fun i hi => v_L_ne hi
    refine ⟨?_, fun i => ?_, rfl, ⟨rfl, rfl, rfl, rfl, rfl, rfl, fun o => if_neg (fun z => absurd z.2 (by decide))⟩, ne, Or.inr ⟨hc.1, hc.2, e6⟩, fun z => ?_, fun o => ?_⟩
    · show v_inv (v_sL (w_ρ ω) k 6 9)
      refine h.but rfl rfl (fun i hi => ?_) (fun i hi => ?_)
      · by_cases z : i = k
        · subst z
          refine g_row_of hrow.1 (hrow.dry (by rw [hc.1]; decide)) (ef 1 (by decide)) (ef 2 (by decide)) (ef 3 (by decide)) (by rw [ef 4 (by decide)]; exact hrow.1.2.2.2) (ef 5 (by decide)) (Or.inr (Or.inr ⟨Or.inr (Or.inr e6), ?_, ?_⟩))
          · rw [ef 7 (by decide)]
            exact g_p7 hrow.2.2 (Or.inr (Or.inl hc.1))
          · rw [ef 9 (by decide)]
            exact g_own hrow.2.2 (Or.inr (Or.inl hc.1))
        · rw [ne i z]
          exact h.2.1 i hi
      · by_cases z : i = k
        · subst z
          rw [g_line0 (F := v_L (v_sL (w_ρ ω) i 6 9) i) (by rw [e6]; decide), g_line0 (F := v_L (w_ρ ω) i) (by rw [hc.1]; decide)]
        · rw [ne i z]
    · show g_mn (v_L (w_ρ ω) i) (v_L (v_sL (w_ρ ω) k 6 9) i)
      by_cases z : i = k
      · subst z
        exact ⟨fun y => by rw [hc.1] at y; exact absurd y (by decide), fun _ => by rw [e6]; decide, by rw [ef 4 (by decide)]; exact Int32.and_self⟩
      · rw [ne i z]
        exact g_mn.rf
    · have z6 : v_L (v_sL (w_ρ ω) k 6 9) k 6 = 8 := z.1
      rw [e6] at z6
      exact absurd z6 (by decide)
    · have hb := hB o1
      have hs : (w_O ω o1 1 + pd).toInt = (w_O ω o1 1).toInt + pd.toInt := g_add (by omega) (by omega)
      show (w_O ω o 1).toInt ≤ (if o = o1 ∧ 1 = 1 then w_O ω o1 1 + pd else w_O ω o 1).toInt ∧ (if o = o1 ∧ 1 = 1 then w_O ω o1 1 + pd else w_O ω o 1).toInt ≤ _
      by_cases z : o = o1
      · rw [if_pos ⟨z, rfl⟩, hs, z]
        omega
      · rw [if_neg (fun y => z y.1)]
        omega
  · have e : m_unl1 j k ω = ω := by
      unfold m_unl1
      rw [if_neg hc]
    rw [e]
    exact ⟨h, fun _ => g_mn.rf, rfl, w_sd.rf, fun _ _ => rfl, Or.inl rfl, hc, w_mn.rf.le (by decide)⟩
theorem m_unl_st (j : Nat) : ∀ (m k : Nat) (ω : wS) (B : Int), v_inv (w_ρ ω) → k + m ≤ v_n (w_ρ ω) → (1 ≤ w_P ω (w_W ω j) 2 ∧ w_P ω (w_W ω j) 2 < 10) → w_mb ω B → B + 729 * m < 2147480000 → v_inv (w_ρ (m_unl j m k ω)) ∧ (∀ i, g_mn (v_L (w_ρ ω) i) (v_L (w_ρ (m_unl j m k ω)) i)) ∧ v_R (w_ρ (m_unl j m k ω)) = v_R (w_ρ ω) ∧ w_sd ω (m_unl j m k ω) ∧ (∀ i, v_L (w_ρ (m_unl j m k ω)) i = v_L (w_ρ ω) i ∨ (v_L (w_ρ ω) i 6 = 8 ∧ v_L (w_ρ ω) i 10 = nI j ∧ v_L (w_ρ (m_unl j m k ω)) i 6 = 9)) ∧ (∀ i, i < k → v_L (w_ρ (m_unl j m k ω)) i = v_L (w_ρ ω) i) ∧ (∀ i, k ≤ i → i < k + m → ¬ (v_L (w_ρ (m_unl j m k ω)) i 6 = 8 ∧ v_L (w_ρ (m_unl j m k ω)) i 10 = nI j)) ∧ w_mn ω (m_unl j m k ω) (729 * m) := by
  intro m
  induction m with
  | zero => exact fun k ω B h _ _ _ _ => ⟨h, fun _ => g_mn.rf, rfl, w_sd.rf, fun _ => Or.inl rfl, fun _ _ => rfl, fun i h1 h2 => by omega, w_mn.rf.le (by omega)⟩
  | succ m ih =>
    intro k ω B h hk hp hB hB2
    obtain ⟨a1, a2, a3, a4, a5, a6, a7, a8⟩ := m_unl1_st (j := j) (k := k) h (by omega) hp hB (by omega)
    have hs := m_unl1_same j k ω
    obtain ⟨b1, b2, b3, b4, b5, b6, b7, b8⟩ := ih (k + 1) (m_unl1 j k ω) (B + 729) a1 (by rw [hs.1]; omega) (by rw [a4.2.1, a4.2.2.2.2.1]; exact hp) (hB.mn a8) (by omega)
    refine ⟨b1, fun i => (a2 i).tr (b2 i), b3.trans a3, a4.tr b4, fun i => ?_, fun i hi => (b6 i (by omega)).trans (a5 i (by omega)), fun i h1 h2 => ?_, (a8.tr b8).le (by omega)⟩
    · by_cases z : i = k
      · subst z
        have e := b6 i (by omega)
        show v_L (w_ρ (m_unl j m (i + 1) (m_unl1 j i ω))) i = _ ∨ (_ ∧ _ ∧ v_L (w_ρ (m_unl j m (i + 1) (m_unl1 j i ω))) i 6 = 9)
        rw [e]
        exact a6
      · have e := b5 i
        rw [a5 i z] at e
        exact e
    · by_cases z : i = k
      · subst z
        have e := b6 i (by omega)
        show ¬ (v_L (w_ρ (m_unl j m (i + 1) (m_unl1 j i ω))) i 6 = 8 ∧ v_L (w_ρ (m_unl j m (i + 1) (m_unl1 j i ω))) i 10 = nI j)
        rw [e]
        exact a7
      · exact b7 i (by omega) (by omega)
