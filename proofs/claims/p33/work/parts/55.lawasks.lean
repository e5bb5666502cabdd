/-! ===== asking a fixed system: contracts that the walker unfolds by itself ===== -/
def m_ix (i : Int32) (n : Nat) : Prop := ¬ i < 0 ∧ i.toNatClampNeg < n
theorem m_ix_of {i : Int32} {n : Nat} (h : m_ix i n) : ∃ j, j < n ∧ i = nI j ∧ i.toNatClampNeg = j := by
  obtain ⟨j, hj, rfl⟩ := nI_of h.1
  have hc : (nI j).toNatClampNeg = j := nI_clamp hj
  exact ⟨j, by have := h.2; rw [hc] at this; exact this, rfl, hc⟩
theorem m_ix_nI {j n : Nat} (h : j < n) (hn : n < 100000) : m_ix (nI j) n := ⟨nI_pos (by omega), by rw [nI_clamp (by omega)]; exact h⟩
theorem zd_c0 : ((0 : Int32)).toNatClampNeg = 0 := by decide
theorem zd_o0 : m_ix (0 : Int32) 8 = True := eq_true ⟨by decide, by decide⟩
theorem zd_r0 : m_ix (0 : Int32) 10 = True := eq_true ⟨by decide, by decide⟩
theorem zd_l0 : m_ix (0 : Int32) 9 = True := eq_true ⟨by decide, by decide⟩
theorem zd_m0 : m_ix (0 : Int32) 19 = True := eq_true ⟨by decide, by decide⟩
theorem zd_c1 : ((1 : Int32)).toNatClampNeg = 1 := by decide
theorem zd_o1 : m_ix (1 : Int32) 8 = True := eq_true ⟨by decide, by decide⟩
theorem zd_r1 : m_ix (1 : Int32) 10 = True := eq_true ⟨by decide, by decide⟩
theorem zd_l1 : m_ix (1 : Int32) 9 = True := eq_true ⟨by decide, by decide⟩
theorem zd_m1 : m_ix (1 : Int32) 19 = True := eq_true ⟨by decide, by decide⟩
theorem zd_c2 : ((2 : Int32)).toNatClampNeg = 2 := by decide
theorem zd_o2 : m_ix (2 : Int32) 8 = True := eq_true ⟨by decide, by decide⟩
theorem zd_r2 : m_ix (2 : Int32) 10 = True := eq_true ⟨by decide, by decide⟩
theorem zd_l2 : m_ix (2 : Int32) 9 = True := eq_true ⟨by decide, by decide⟩
theorem zd_m2 : m_ix (2 : Int32) 19 = True := eq_true ⟨by decide, by decide⟩
theorem zd_c3 : ((3 : Int32)).toNatClampNeg = 3 := by decide
theorem zd_o3 : m_ix (3 : Int32) 8 = True := eq_true ⟨by decide, by decide⟩
theorem zd_r3 : m_ix (3 : Int32) 10 = True := eq_true ⟨by decide, by decide⟩
theorem zd_l3 : m_ix (3 : Int32) 9 = True := eq_true ⟨by decide, by decide⟩
theorem zd_m3 : m_ix (3 : Int32) 19 = True := eq_true ⟨by decide, by decide⟩
theorem zd_c4 : ((4 : Int32)).toNatClampNeg = 4 := by decide
theorem zd_o4 : m_ix (4 : Int32) 8 = True := eq_true ⟨by decide, by decide⟩
theorem zd_r4 : m_ix (4 : Int32) 10 = True := eq_true ⟨by decide, by decide⟩
theorem zd_l4 : m_ix (4 : Int32) 9 = True := eq_true ⟨by decide, by decide⟩
theorem zd_m4 : m_ix (4 : Int32) 19 = True := eq_true ⟨by decide, by decide⟩
theorem zd_c5 : ((5 : Int32)).toNatClampNeg = 5 := by decide
theorem zd_o5 : m_ix (5 : Int32) 8 = True := eq_true ⟨by decide, by decide⟩
theorem zd_r5 : m_ix (5 : Int32) 10 = True := eq_true ⟨by decide, by decide⟩
theorem zd_l5 : m_ix (5 : Int32) 9 = True := eq_true ⟨by decide, by decide⟩
theorem zd_m5 : m_ix (5 : Int32) 19 = True := eq_true ⟨by decide, by decide⟩
theorem zd_c6 : ((6 : Int32)).toNatClampNeg = 6 := by decide
theorem zd_o6 : m_ix (6 : Int32) 8 = True := eq_true ⟨by decide, by decide⟩
theorem zd_r6 : m_ix (6 : Int32) 10 = True := eq_true ⟨by decide, by decide⟩
theorem zd_l6 : m_ix (6 : Int32) 9 = True := eq_true ⟨by decide, by decide⟩
theorem zd_m6 : m_ix (6 : Int32) 19 = True := eq_true ⟨by decide, by decide⟩
theorem zd_c7 : ((7 : Int32)).toNatClampNeg = 7 := by decide
theorem zd_o7 : m_ix (7 : Int32) 8 = True := eq_true ⟨by decide, by decide⟩
theorem zd_r7 : m_ix (7 : Int32) 10 = True := eq_true ⟨by decide, by decide⟩
theorem zd_l7 : m_ix (7 : Int32) 9 = True := eq_true ⟨by decide, by decide⟩
theorem zd_m7 : m_ix (7 : Int32) 19 = True := eq_true ⟨by decide, by decide⟩
theorem zd_c8 : ((8 : Int32)).toNatClampNeg = 8 := by decide
theorem zd_r8 : m_ix (8 : Int32) 10 = True := eq_true ⟨by decide, by decide⟩
theorem zd_l8 : m_ix (8 : Int32) 9 = True := eq_true ⟨by decide, by decide⟩
theorem zd_m8 : m_ix (8 : Int32) 19 = True := eq_true ⟨by decide, by decide⟩
theorem zd_c9 : ((9 : Int32)).toNatClampNeg = 9 := by decide
theorem zd_r9 : m_ix (9 : Int32) 10 = True := eq_true ⟨by decide, by decide⟩
theorem zd_m9 : m_ix (9 : Int32) 19 = True := eq_true ⟨by decide, by decide⟩
theorem zd_c10 : ((10 : Int32)).toNatClampNeg = 10 := by decide
theorem zd_m10 : m_ix (10 : Int32) 19 = True := eq_true ⟨by decide, by decide⟩
theorem zd_c11 : ((11 : Int32)).toNatClampNeg = 11 := by decide
theorem zd_m11 : m_ix (11 : Int32) 19 = True := eq_true ⟨by decide, by decide⟩
theorem zd_c12 : ((12 : Int32)).toNatClampNeg = 12 := by decide
theorem zd_m12 : m_ix (12 : Int32) 19 = True := eq_true ⟨by decide, by decide⟩
theorem zd_c13 : ((13 : Int32)).toNatClampNeg = 13 := by decide
theorem zd_m13 : m_ix (13 : Int32) 19 = True := eq_true ⟨by decide, by decide⟩
theorem zd_c14 : ((14 : Int32)).toNatClampNeg = 14 := by decide
theorem zd_m14 : m_ix (14 : Int32) 19 = True := eq_true ⟨by decide, by decide⟩
theorem zd_c15 : ((15 : Int32)).toNatClampNeg = 15 := by decide
theorem zd_m15 : m_ix (15 : Int32) 19 = True := eq_true ⟨by decide, by decide⟩
theorem zd_c16 : ((16 : Int32)).toNatClampNeg = 16 := by decide
theorem zd_m16 : m_ix (16 : Int32) 19 = True := eq_true ⟨by decide, by decide⟩
theorem zd_c17 : ((17 : Int32)).toNatClampNeg = 17 := by decide
theorem zd_m17 : m_ix (17 : Int32) 19 = True := eq_true ⟨by decide, by decide⟩
theorem zd_c18 : ((18 : Int32)).toNatClampNeg = 18 := by decide
theorem zd_m18 : m_ix (18 : Int32) 19 = True := eq_true ⟨by decide, by decide⟩
theorem zd_ofOwner0 (ω : wS) (i : Nat) : m_ofOwner ω i 0 = w_O ω i 0 := (rfl)
theorem zd_ofOwner1 (ω : wS) (i : Nat) : m_ofOwner ω i 1 = w_O ω i 1 := (rfl)
theorem zd_ofOwner2 (ω : wS) (i : Nat) : m_ofOwner ω i 2 = nI (v_Q (w_ρ ω) (13 + i)).length := (rfl)
theorem zd_ofOwner3 (ω : wS) (i : Nat) : m_ofOwner ω i 3 = m_nat (v_Q (w_ρ ω) (13 + i)) 0 := (rfl)
theorem zd_ofOwner4 (ω : wS) (i : Nat) : m_ofOwner ω i 4 = m_held ω (nI i) 8 := (rfl)
theorem zd_ofOwner5 (ω : wS) (i : Nat) : m_ofOwner ω i 5 = m_held ω (nI i) 9 := (rfl)
theorem zd_ofOwner6 (ω : wS) (i : Nat) : m_ofOwner ω i 6 = w_O ω i 2 := (rfl)
theorem zd_ofOwner7 (ω : wS) (i : Nat) : m_ofOwner ω i 7 = w_O ω i 3 := (rfl)
theorem zd_ofReach0 (ω : wS) (i : Nat) : m_ofReach ω i 0 = v_R (w_ρ ω) i 1 := (rfl)
theorem zd_ofReach1 (ω : wS) (i : Nat) : m_ofReach ω i 1 = v_R (w_ρ ω) i 2 := (rfl)
theorem zd_ofReach2 (ω : wS) (i : Nat) : m_ofReach ω i 2 = v_R (w_ρ ω) i 3 := (rfl)
theorem zd_ofReach3 (ω : wS) (i : Nat) : m_ofReach ω i 3 = v_R (w_ρ ω) i 4 := (rfl)
theorem zd_ofReach4 (ω : wS) (i : Nat) : m_ofReach ω i 4 = nI (v_Q (w_ρ ω) i).length := (rfl)
theorem zd_ofReach5 (ω : wS) (i : Nat) : m_ofReach ω i 5 = nI (v_Q (w_ρ ω) (6 + i)).length := (rfl)
theorem zd_ofReach6 (ω : wS) (i : Nat) : m_ofReach ω i 6 = m_nat (v_Q (w_ρ ω) (6 + i)) 0 := (rfl)
theorem zd_ofReach7 (ω : wS) (i : Nat) : m_ofReach ω i 7 = m_atR ω (nI i) 3 := (rfl)
theorem zd_ofReach8 (ω : wS) (i : Nat) : m_ofReach ω i 8 = m_atR ω (nI i) 4 := (rfl)
theorem zd_ofReach9 (ω : wS) (i : Nat) : m_ofReach ω i 9 = m_atR ω (nI i) 0 := (rfl)
theorem zd_ofLog0 (ω : wS) (i : Nat) : m_ofLog ω i 0 = v_L (w_ρ ω) i 6 := (rfl)
theorem zd_ofLog1 (ω : wS) (i : Nat) : m_ofLog ω i 1 = v_L (w_ρ ω) i 7 := (rfl)
theorem zd_ofLog2 (ω : wS) (i : Nat) : m_ofLog ω i 2 = v_L (w_ρ ω) i 1 := (rfl)
theorem zd_ofLog3 (ω : wS) (i : Nat) : m_ofLog ω i 3 = v_L (w_ρ ω) i 2 := (rfl)
theorem zd_ofLog4 (ω : wS) (i : Nat) : m_ofLog ω i 4 = v_L (w_ρ ω) i 3 := (rfl)
theorem zd_ofLog5 (ω : wS) (i : Nat) : m_ofLog ω i 5 = v_L (w_ρ ω) i 4 := (rfl)
theorem zd_ofLog6 (ω : wS) (i : Nat) : m_ofLog ω i 6 = v_L (w_ρ ω) i 5 := (rfl)
theorem zd_ofLog7 (ω : wS) (i : Nat) : m_ofLog ω i 7 = m_whose ω i := (rfl)
theorem zd_ofLog8 (ω : wS) (i : Nat) : m_ofLog ω i 8 = v_L (w_ρ ω) i 8 := (rfl)
theorem zd_many0 (ω : wS) : m_many ω 0 = v_now (w_ρ ω) := (rfl)
theorem zd_many14 (ω : wS) : m_many ω 14 = w_costs ω := (rfl)
theorem zd_many15 (ω : wS) : m_many ω 15 = m_rfl ω (w_nr ω) 0 0 := (rfl)
theorem zd_many16 (ω : wS) : m_many ω 16 = nI (w_no ω) := (rfl)
theorem zd_many17 (ω : wS) : m_many ω 17 = m_sumW 6 (w_ρ ω) := (rfl)
theorem zd_many18 (ω : wS) : m_many ω 18 = m_none ω := (rfl)
theorem zd_many6 (ω : wS) : m_many ω 6 = m_atP ω (nI 6 - 1) := (rfl)
theorem zd_many8 (ω : wS) : m_many ω 8 = m_atP ω (nI 8 - 1) := (rfl)
def q_ofLog (ω : wS) : zPT := fun as σ K => match as with
  | [.ref x, .int i, .int j] => w_ok σ x ω ∧ m_ix i (v_n (w_ρ ω)) ∧ m_ix j 9 ∧ K (some (.int (m_ofLog ω i.toNatClampNeg j.toNatClampNeg))) σ
  | _ => False
def q_ofReach (ω : wS) : zPT := fun as σ K => match as with
  | [.ref x, .int i, .int j] => w_ok σ x ω ∧ m_ix i 6 ∧ m_ix j 10 ∧ K (some (.int (m_ofReach ω i.toNatClampNeg j.toNatClampNeg))) σ
  | _ => False
def q_ofOwner (ω : wS) : zPT := fun as σ K => match as with
  | [.ref x, .int i, .int j] => w_ok σ x ω ∧ m_ix i 4 ∧ m_ix j 8 ∧ K (some (.int (m_ofOwner ω i.toNatClampNeg j.toNatClampNeg))) σ
  | _ => False
def q_many (ω : wS) : zPT := fun as σ K => match as with
  | [.ref x, .int i] => w_ok σ x ω ∧ m_ix i 19 ∧ K (some (.int (m_many ω i.toNatClampNeg))) σ
  | _ => False
def q_scale (ω : wS) : zPT := fun as σ K => match as with
  | [.ref x, .int i, .int j] => w_ok σ x ω ∧ m_ix i (v_n (w_ρ ω)) ∧ 0 ≤ j ∧ j ≤ 2 ∧ K (some (.int (m_sc (v_L (w_ρ ω) i.toNatClampNeg 2) (v_L (w_ρ ω) i.toNatClampNeg 3) (v_L (w_ρ ω) i.toNatClampNeg 5) j))) σ
  | _ => False
def m_rw (i : Int32) : Nat := if i = -1 then 12 else i.toNatClampNeg
def q_row (ω : wS) : zPT := fun as σ K => match as with
  | [.ref x, .int i, .int j] => w_ok σ x ω ∧ (i = -1 ∨ m_ix i 6) ∧ ¬ j < 0 ∧ K (some (.int (m_nat (v_Q (w_ρ ω) (m_rw i)) j))) σ
  | _ => False
def q_mean (ω : wS) : zPT := fun as σ K => match as with
  | [.ref x] => w_ok σ x ω ∧ (¬ (m_ms (w_ρ ω)).2 = 0 → vf_n64 (FP.ddiv (FP.i2d (m_ms (w_ρ ω)).1) (FP.i2d (m_ms (w_ρ ω)).2))) ∧ K (some (.double (m_mean (m_ms (w_ρ ω)).1 (m_ms (w_ρ ω)).2))) σ
  | _ => False
theorem cq_ofLog (l : Launch) (ω : wS) : z_Ct l yX7_ofLog cX7_ofLog 4 (some .int) rX7_ofLog (q_ofLog ω) 0 0 := (ctX7_ofLog l).weaken (fun as σ K h => by
  unfold q_ofLog at h
  split at h
  · obtain ⟨⟨E, lg, lg', og, rg, h1⟩, h2, h3, h4⟩ := h
    obtain ⟨a, ha, rfl, hca⟩ := m_ix_of h2
    obtain ⟨c, hc, rfl, hcc⟩ := m_ix_of h3
    rw [hca, hcc] at h4
    exact ⟨_, E, lg, lg', og, rg, ω, a, c, h1, rfl, rfl, ha, rfl, hc, h4⟩
  · exact h.elim)
theorem cq_ofReach (l : Launch) (ω : wS) : z_Ct l yX7_ofReach cX7_ofReach 4 (some .int) rX7_ofReach (q_ofReach ω) 0 0 := (ctX7_ofReach l).weaken (fun as σ K h => by
  unfold q_ofReach at h
  split at h
  · obtain ⟨⟨E, lg, lg', og, rg, h1⟩, h2, h3, h4⟩ := h
    obtain ⟨a, ha, rfl, hca⟩ := m_ix_of h2
    obtain ⟨c, hc, rfl, hcc⟩ := m_ix_of h3
    rw [hca, hcc] at h4
    exact ⟨_, E, lg, lg', og, rg, ω, a, c, h1, rfl, rfl, ha, rfl, hc, h4⟩
  · exact h.elim)
theorem cq_ofOwner (l : Launch) (ω : wS) : z_Ct l yX7_ofOwner cX7_ofOwner 5 (some .int) rX7_ofOwner (q_ofOwner ω) 0 0 := (ctX7_ofOwner l).weaken (fun as σ K h => by
  unfold q_ofOwner at h
  split at h
  · obtain ⟨⟨E, lg, lg', og, rg, h1⟩, h2, h3, h4⟩ := h
    obtain ⟨a, ha, rfl, hca⟩ := m_ix_of h2
    obtain ⟨c, hc, rfl, hcc⟩ := m_ix_of h3
    rw [hca, hcc] at h4
    exact ⟨_, E, lg, lg', og, rg, ω, a, c, h1, rfl, rfl, ha, rfl, hc, h4⟩
  · exact h.elim)
theorem cq_many (l : Launch) (ω : wS) : z_Ct l yX7_many cX7_many 2 (some .int) rX7_many (q_many ω) 0 0 := (ctX7_many l).weaken (fun as σ K h => by
  unfold q_many at h
  split at h
  · obtain ⟨⟨E, lg, lg', og, rg, h1⟩, h2, h4⟩ := h
    obtain ⟨a, ha, rfl, hca⟩ := m_ix_of h2
    rw [hca] at h4
    exact ⟨_, E, lg, lg', og, rg, ω, a, h1, rfl, rfl, ha, h4⟩
  · exact h.elim)
theorem cq_scale (l : Launch) (ω : wS) : z_Ct l yX7_scale cX7_scale 3 (some .int) rX7_scale (q_scale ω) 0 0 := (ctX7_scale l).weaken (fun as σ K h => by
  unfold q_scale at h
  split at h
  · obtain ⟨⟨E, lg, lg', og, rg, h1⟩, h2, h3, h4, h5⟩ := h
    obtain ⟨a, ha, rfl, hca⟩ := m_ix_of h2
    rw [hca] at h5
    exact ⟨_, E, lg, lg', og, rg, ω, a, h1, rfl, rfl, ha, h3, h4, h5⟩
  · exact h.elim)
theorem cq_row (l : Launch) (ω : wS) : z_Ct l yX7_row cX7_row 4 (some .int) rX7_row (q_row ω) 0 0 := (ctX7_row l).weaken (fun as σ K h => by
  unfold q_row at h
  split at h
  · obtain ⟨⟨E, lg, lg', og, rg, h1⟩, h2, h3, h4⟩ := h
    refine ⟨_, E, lg, lg', og, rg, ω, _, h1, rfl, ?_, h3, h4⟩
    rcases h2 with rfl | h2
    · exact Or.inl ⟨rfl, rfl⟩
    · obtain ⟨a, ha, rfl, hca⟩ := m_ix_of h2
      refine Or.inr ?_
      have hne : ¬ nI a = -1 := fun e => by
        have := nI_pos (n := a) (by omega)
        rw [e] at this
        exact this (by decide)
      unfold m_rw
      rw [if_neg hne, hca]
      exact ⟨ha, rfl⟩
  · exact h.elim)
theorem cq_mean (l : Launch) (ω : wS) : z_Ct l yX7_meanSoaked cX7_meanSoaked 5 (some .double) rX7_meanSoaked (q_mean ω) 0 0 := (ctX7_meanSoaked l).weaken (fun as σ K h => by
  unfold q_mean at h
  split at h
  · obtain ⟨⟨E, lg, lg', og, rg, h1⟩, h2, h3⟩ := h
    exact ⟨_, E, lg, lg', og, rg, ω, h1, rfl, h2, h3⟩
  · exact h.elim)
/-! ===== arrays of ints ===== -/
theorem w_ok_wa (σ : bS) (a j : Nat) (x : Int32) (b : Nat) (ω : wS) : w_ok (z_wa σ a j x) b ω = w_ok σ b ω := (rfl)
def v_ia (σ : bS) (a n : Nat) (F : Nat → Int32) : Prop := z_t σ a = 21 ∧ z_n σ a = n ∧ ∀ j, j < n → z_a σ a j = F j
theorem v_ex.wa {P : Nat → Prop} {B : Nat} {σ : bS} {a j : Nat} {x : Int32} (h : B ≤ a) : v_ex P B σ (z_wa σ a j x) := ⟨Nat.le_refl _, fun y hy => ⟨rfl, rfl, by
  funext j'
  rw [z_a_wa, if_neg (fun e => by omega)], fun _ => ⟨fun _ _ => rfl, fun _ _ => rfl, rfl⟩⟩⟩
theorem v_ia.kp {σ σ' : bS} {a n : Nat} {F : Nat → Int32} (h : v_ia σ a n F) (hk : w_kp σ σ') (ha : a < z_z σ) : v_ia σ' a n F := by
  obtain ⟨h1, h2, h3⟩ := hk.2 a ha
  exact ⟨h1.trans h.1, h2.trans h.2.1, fun j hj => by rw [h3]; exact h.2.2 j hj⟩
/-- how many of the first n have P -/
def m_ct (P : Nat → Prop) [DecidablePred P] : Nat → Nat
  | 0 => 0
  | n + 1 => m_ct P n + (if P n then 1 else 0)
theorem m_ct_le (P : Nat → Prop) [DecidablePred P] : ∀ n, m_ct P n ≤ n := by
  intro n
  induction n with
  | zero => exact Nat.le_refl _
  | succ n ih =>
    show m_ct P n + _ ≤ n + 1
    split <;> omega
theorem m_fold_ct (P : Nat → Prop) [DecidablePred P] (g : Nat → Int32 → Int32) (hg : ∀ i c, g i c = if P i then c + 1 else c) : ∀ (m k : Nat), m_fold g m k (nI (m_ct P k)) = nI (m_ct P (k + m)) := by
  intro m
  induction m with
  | zero => exact fun _ => rfl
  | succ m ih =>
    intro k
    show m_fold g m (k + 1) (g k (nI (m_ct P k))) = _
    have e : g k (nI (m_ct P k)) = nI (m_ct P (k + 1)) := by
      rw [hg]
      show _ = nI (m_ct P k + _)
      by_cases h : P k
      · rw [if_pos h, if_pos h, nI_1]
      · rw [if_neg h, if_neg h]; rfl
    rw [e, ih (k + 1), show k + 1 + m = k + (m + 1) by omega]
theorem m_fold_ct0 (P : Nat → Prop) [DecidablePred P] (g : Nat → Int32 → Int32) (hg : ∀ i c, g i c = if P i then c + 1 else c) (n : Nat) : m_fold g n 0 0 = nI (m_ct P n) := by
  have := m_fold_ct P g hg n 0
  rw [Nat.zero_add] at this
  exact this
