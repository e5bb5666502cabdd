/-! ===== the calls of the law, told of one system ===== -/
def d_money (ω : wS) : zPT := fun as σ K => match as with
  | [.ref x] => w_ok σ x ω ∧ K (some (.int (m_mon ω 4 0 0))) σ
  | _ => False
theorem cd_money (l : Launch) (ω : wS) : z_Ct l yL_money cL_money 3 (some .int) rL_money (d_money ω) 0 0 := (ctL_money l).weaken (fun as σ K h => by
  unfold d_money at h
  split at h
  · obtain ⟨⟨E, lg, lg', og, rg, h1⟩, hK⟩ := h
    exact ⟨_, E, lg, lg', og, rg, ω, h1, rfl, hK⟩
  · exact h.elim)
def d_scr (σ : bS) (a len : Nat) (Sc : Nat → Int32) : Prop := (z_t σ a = 21 ∨ z_t σ a = 31) ∧ z_n σ a = len ∧ len < 100000 ∧ ∀ i, i < len → z_a σ a i = Sc i
def q_cell (Sc : Nat → Int32) (len : Nat) : zPT := fun as σ K => match as with
  | [.ref a, .int k] => d_scr σ a len Sc ∧ m_ix k 100000 ∧ K (some (.int (m_cel Sc len k.toNatClampNeg))) σ
  | _ => False
theorem cq_cell (l : Launch) (Sc : Nat → Int32) (len : Nat) : z_Ct l yL_cell cL_cell 2 (some .int) rL_cell (q_cell Sc len) 0 0 := (ctL_cell l).weaken (fun as σ K h => by
  unfold q_cell at h
  split at h
  · obtain ⟨⟨h1, h2, h3, h4⟩, h5, hK⟩ := h
    obtain ⟨j, hj, rfl, ej⟩ := m_ix_of h5
    rw [ej] at hK
    exact ⟨Sc, len, j, h1, h2, h3, h4, rfl, hj, hK⟩
  · exact h.elim)
def d_mark (ω : wS) : zPT := fun as σ K => match as with
  | [.ref x, .int i, .int s] => w_ok σ x ω ∧ m_ix i 4 ∧ (0 ≤ s ∧ s ≤ 63) ∧ ∀ σ', w_ok σ' x (w_sO ω i.toNatClampNeg 0 s) → w_kp σ σ' → K (some (.int (w_O ω i.toNatClampNeg 0))) σ'
  | _ => False
theorem cd_mark (l : Launch) (ω : wS) : z_Ct l yX7_mark cX7_mark 4 (some .int) rX7_mark (d_mark ω) 0 0 := (ctX7_mark l).weaken (fun as σ K h => by
  unfold d_mark at h
  split at h
  · obtain ⟨⟨E, lg, lg', og, rg, h1⟩, g0, g1, hK⟩ := h
    obtain ⟨i0, hi, rfl, ei⟩ := m_ix_of g0
    rw [ei] at hK
    exact ⟨_, E, lg, lg', og, rg, ω, i0, h1, rfl, rfl, hi, g1.1, g1.2, fun σ' hr hk => hK σ' ⟨E, lg, lg', og, rg, hr⟩ hk⟩
  · exact h.elim)
def d_rocks (ω : wS) : zPT := fun as σ K => match as with
  | [.ref x, .int i, .int s] => w_ok σ x ω ∧ m_ix i 6 ∧ (0 ≤ s ∧ s ≤ 9) ∧ ∀ σ', w_ok σ' x (w_sV ω (v_sR (w_ρ ω) i.toNatClampNeg 3 s)) → w_kp σ σ' → K (some (.int (v_R (w_ρ ω) i.toNatClampNeg 3))) σ'
  | _ => False
theorem cd_rocks (l : Launch) (ω : wS) : z_Ct l yX7_rocks cX7_rocks 5 (some .int) rX7_rocks (d_rocks ω) 0 0 := (ctX7_rocks l).weaken (fun as σ K h => by
  unfold d_rocks at h
  split at h
  · obtain ⟨⟨E, lg, lg', og, rg, h1⟩, g0, g1, hK⟩ := h
    obtain ⟨i0, hi, rfl, ei⟩ := m_ix_of g0
    rw [ei] at hK
    exact ⟨_, E, lg, lg', og, rg, ω, i0, h1, rfl, rfl, hi, g1.1, g1.2, fun σ' hr hk => hK σ' ⟨E, lg, lg', og, rg, hr⟩ hk⟩
  · exact h.elim)
def d_gateP (s : Int32) : Prop := 0 ≤ s ∧ s ≤ 3
def d_gate (ω : wS) : zPT := fun as σ K => match as with
  | [.ref x, .int i, .int s] => w_ok σ x ω ∧ m_ix i 6 ∧ d_gateP s ∧ ∀ σ', w_ok σ' x (w_sV ω (v_sR (w_ρ ω) i.toNatClampNeg 2 s)) → w_kp σ σ' → K (some (.int (v_R (w_ρ ω) i.toNatClampNeg 2))) σ'
  | _ => False
theorem cd_gate (l : Launch) (ω : wS) : z_Ct l yX7_gate cX7_gate 5 (some .int) rX7_gate (d_gate ω) 0 0 := (ctX7_gate l).weaken (fun as σ K h => by
  unfold d_gate at h
  split at h
  · obtain ⟨⟨E, lg, lg', og, rg, h1⟩, g0, g1, hK⟩ := h
    obtain ⟨i0, hi, rfl, ei⟩ := m_ix_of g0
    rw [ei] at hK
    exact ⟨_, E, lg, lg', og, rg, ω, i0, h1, rfl, rfl, hi, g1.1, g1.2, fun σ' hr hk => hK σ' ⟨E, lg, lg', og, rg, hr⟩ hk⟩
  · exact h.elim)
def d_crewP (s : Int32) : Prop := 0 ≤ s ∧ s ≤ 20
def d_crew (ω : wS) : zPT := fun as σ K => match as with
  | [.ref x, .int s] => w_ok σ x ω ∧ d_crewP s ∧ ∀ σ', w_ok σ' x (w_sC ω s) → w_kp σ σ' → K (some (.int (w_crew ω))) σ'
  | _ => False
theorem cd_crew (l : Launch) (ω : wS) : z_Ct l yX7_crew cX7_crew 3 (some .int) rX7_crew (d_crew ω) 0 0 := (ctX7_crew l).weaken (fun as σ K h => by
  unfold d_crew at h
  split at h
  · obtain ⟨⟨E, lg, lg', og, rg, h1⟩, g0, hK⟩ := h
    exact ⟨_, E, lg, lg', og, rg, ω, h1, rfl, g0.1, g0.2, fun σ' hr hk => hK σ' ⟨E, lg, lg', og, rg, hr⟩ hk⟩
  · exact h.elim)
def d_fellP (k n g : Int32) (ω : wS) : Prop := 0 ≤ k ∧ k ≤ 2 ∧ 3 ≤ n ∧ n ≤ 9 ∧ 1 ≤ g ∧ g ≤ 9 ∧ v_n (w_ρ ω) < 40
def d_fell (ω : wS) : zPT := fun as σ K => match as with
  | [.ref x, .int i, .int j, .int k, .int n, .int g] => w_ok σ x ω ∧ m_ix i 4 ∧ m_ix j 6 ∧ d_fellP k n g ω ∧ ∀ σ', w_ok σ' x (m_fell ω i.toNatClampNeg j k n g) → w_kp σ σ' → K (some (.int (nI (v_n (w_ρ ω))))) σ'
  | _ => False
theorem cd_fell (l : Launch) (ω : wS) : z_Ct l yX7_fell cX7_fell 7 (some .int) rX7_fell (d_fell ω) 2 131 := (ctX7_fell l).weaken (fun as σ K h => by
  unfold d_fell at h
  split at h
  · obtain ⟨⟨E, lg, lg', og, rg, h1⟩, g0, g1, g2, hK⟩ := h
    obtain ⟨i0, hi, rfl, ei⟩ := m_ix_of g0
    obtain ⟨j0, hj, rfl, ej⟩ := m_ix_of g1
    rw [ei] at hK
    exact ⟨_, E, lg, lg', og, rg, ω, i0, j0, h1, rfl, rfl, hi, rfl, hj, g2.1, g2.2.1, g2.2.2.1, g2.2.2.2.1, g2.2.2.2.2.1, g2.2.2.2.2.2.1, g2.2.2.2.2.2.2, fun σ' E' lg2 hr hk => hK σ' ⟨E', lg2, lg', og, rg, hr⟩ hk⟩
  · exact h.elim)
def d_orderP (k n p d : Int32) (ω : wS) : Prop := 0 ≤ k ∧ k ≤ 2 ∧ 3 ≤ n ∧ n ≤ 9 ∧ 1 ≤ p ∧ p ≤ 9 ∧ 0 ≤ d ∧ d ≤ 60 ∧ w_no ω < 6
def d_order (ω : wS) : zPT := fun as σ K => match as with
  | [.ref x, .int k, .int n, .int p, .int d] => w_ok σ x ω ∧ d_orderP k n p d ω ∧ ∀ σ', w_ok σ' x (m_order ω k n p d) → w_kp σ σ' → K (some (.int (nI (w_no ω)))) σ'
  | _ => False
theorem cd_order (l : Launch) (ω : wS) : z_Ct l yX7_order cX7_order 5 (some .int) rX7_order (d_order ω) 2 124 := (ctX7_order l).weaken (fun as σ K h => by
  unfold d_order at h
  split at h
  · obtain ⟨⟨E, lg, lg', og, rg, h1⟩, g0, hK⟩ := h
    exact ⟨_, E, lg, lg', og, rg, ω, h1, rfl, g0.1, g0.2.1, g0.2.2.1, g0.2.2.2.1, g0.2.2.2.2.1, g0.2.2.2.2.2.1, g0.2.2.2.2.2.2.1, g0.2.2.2.2.2.2.2.1, g0.2.2.2.2.2.2.2.2, fun σ' E' og2 hr hk => hK σ' ⟨E', lg, lg', og2, rg, hr⟩ hk⟩
  · exact h.elim)
def d_roll (ω : wS) : zPT := fun as σ K => match as with
  | [.ref x, .int i] => w_ok σ x ω ∧ m_ix i 6 ∧ ∀ σ', w_ok σ' x (w_sV ω (m_roll (w_ρ ω) i.toNatClampNeg).1) → w_kp σ σ' → K (some (.int (m_roll (w_ρ ω) i.toNatClampNeg).2)) σ'
  | _ => False
theorem cd_roll (l : Launch) (ω : wS) : z_Ct l yX7_roll cX7_roll 5 (some .int) rX7_roll (d_roll ω) 0 0 := (ctX7_roll l).weaken (fun as σ K h => by
  unfold d_roll at h
  split at h
  · obtain ⟨⟨E, lg, lg', og, rg, h1⟩, g0, hK⟩ := h
    obtain ⟨i0, hi, rfl, ei⟩ := m_ix_of g0
    rw [ei] at hK
    exact ⟨_, E, lg, lg', og, rg, ω, i0, h1, rfl, rfl, hi, fun σ' hr hk => hK σ' ⟨E, lg, lg', og, rg, hr⟩ hk⟩
  · exact h.elim)
def d_jam (i : Int32) (ω : wS) : Prop := ¬ v_Q (w_ρ ω) (6 + i.toNatClampNeg) = []
def d_pull (ω : wS) : zPT := fun as σ K => match as with
  | [.ref x, .int i] => w_ok σ x ω ∧ m_ix i 6 ∧ d_jam i ω ∧ K (some (.int (-2))) σ ∧ ∀ σ', w_ok σ' x (w_sV ω (m_break (w_ρ ω) i.toNatClampNeg)) → w_kp σ σ' → K (some (.int (nI (v_Q (w_ρ ω) (6 + i.toNatClampNeg)).length))) σ'
  | _ => False
theorem cd_pull (l : Launch) (ω : wS) : z_Ct l yX7_pull cX7_pull 5 (some .int) rX7_pull (d_pull ω) 0 0 := (ctX7_pull l).weaken (fun as σ K h => by
  unfold d_pull at h
  split at h
  · obtain ⟨⟨E, lg, lg', og, rg, h1⟩, g0, g1, hK0, hK⟩ := h
    obtain ⟨i0, hi, rfl, ei⟩ := m_ix_of g0
    unfold d_jam at g1
    rw [ei] at g1 hK
    match hq : v_Q (w_ρ ω) (6 + i0) with
    | [] => exact absurd hq g1
    | q :: xs =>
      rw [hq] at hK
      exact ⟨_, E, lg, lg', og, rg, ω, i0, q, xs, h1, rfl, rfl, hi, hq, fun _ => hK0, fun _ σ' hr hk => hK σ' ⟨E, lg, lg', og, rg, hr⟩ hk⟩
  · exact h.elim)
def d_blast (ω : wS) : zPT := fun as σ K => match as with
  | [.ref x, .int i] => w_ok σ x ω ∧ m_ix i 6 ∧ d_jam i ω ∧ ∀ σ', w_ok σ' x (m_blast ω i.toNatClampNeg ((v_Q (w_ρ ω) (6 + i.toNatClampNeg)).headD 0)) → w_kp σ σ' → K (some (.int (nI ((v_Q (w_ρ ω) (6 + i.toNatClampNeg)).headD 0)))) σ'
  | _ => False
theorem cd_blast (l : Launch) (ω : wS) : z_Ct l yX7_blast cX7_blast 5 (some .int) rX7_blast (d_blast ω) 0 0 := (ctX7_blast l).weaken (fun as σ K h => by
  unfold d_blast at h
  split at h
  · obtain ⟨⟨E, lg, lg', og, rg, h1⟩, g0, g1, hK⟩ := h
    obtain ⟨i0, hi, rfl, ei⟩ := m_ix_of g0
    unfold d_jam at g1
    rw [ei] at g1 hK
    match hq : v_Q (w_ρ ω) (6 + i0) with
    | [] => exact absurd hq g1
    | q :: xs =>
      rw [hq] at hK
      exact ⟨_, E, lg, lg', og, rg, ω, i0, q, xs, h1, rfl, rfl, hi, hq, fun σ' hr hk => hK σ' ⟨E, lg, lg', og, rg, hr⟩ hk⟩
  · exact h.elim)
def d_pushP (i : Int32) (ω : wS) : Prop := v_L (w_ρ ω) i.toNatClampNeg 6 = 3 ∧ m_ix (v_L (w_ρ ω) i.toNatClampNeg 7) 6
def d_push (ω : wS) : zPT := fun as σ K => match as with
  | [.ref x, .int i] => w_ok σ x ω ∧ m_ix i (v_n (w_ρ ω)) ∧ d_pushP i ω ∧ ∀ σ', w_ok σ' x (m_push ω i.toNatClampNeg (v_L (w_ρ ω) i.toNatClampNeg 7).toNatClampNeg) → w_kp σ σ' → K (some (.int (v_L (m_receive (w_ρ ω) (v_L (w_ρ ω) i.toNatClampNeg 7).toNatClampNeg i.toNatClampNeg) i.toNatClampNeg 6))) σ'
  | _ => False
theorem cd_push (l : Launch) (ω : wS) : z_Ct l yX7_push cX7_push 3 (some .int) rX7_push (d_push ω) 0 0 := (ctX7_push l).weaken (fun as σ K h => by
  unfold d_push at h
  split at h
  · obtain ⟨⟨E, lg, lg', og, rg, h1⟩, g0, g1, hK⟩ := h
    obtain ⟨i0, hi, rfl, ei⟩ := m_ix_of g0
    unfold d_pushP at g1
    rw [ei] at g1 hK
    obtain ⟨r, hr6, er, erc⟩ := m_ix_of g1.2
    rw [erc] at hK
    exact ⟨_, E, lg, lg', og, rg, ω, i0, r, h1, rfl, rfl, hi, g1.1, er, hr6, fun σ' hr hk => hK σ' ⟨E, lg, lg', og, rg, hr⟩ hk⟩
  · exact h.elim)
def d_storm (ω : wS) : zPT := fun as σ K => match as with
  | [.ref x, .int i] => w_ok σ x ω ∧ m_ix i 10 ∧ 1 ≤ i.toNatClampNeg ∧ ∀ σ', w_ok σ' x (w_sV ω (m_stm (min i.toNatClampNeg (v_Q (w_ρ ω) 12).length) (w_ρ ω))) → w_kp σ σ' → K (some (.int (nI (min i.toNatClampNeg (v_Q (w_ρ ω) 12).length)))) σ'
  | _ => False
theorem cd_storm (l : Launch) (ω : wS) : z_Ct l yX7_storm cX7_storm 5 (some .int) rX7_storm (d_storm ω) 0 0 := (ctX7_storm l).weaken (fun as σ K h => by
  unfold d_storm at h
  split at h
  · obtain ⟨⟨E, lg, lg', og, rg, h1⟩, g0, g1, hK⟩ := h
    obtain ⟨i0, hi, rfl, ei⟩ := m_ix_of g0
    rw [ei] at g1 hK
    exact ⟨_, E, lg, lg', og, rg, ω, i0, h1, rfl, rfl, g1, by omega, fun σ' hr hk => hK σ' ⟨E, lg, lg', og, rg, hr⟩ hk⟩
  · exact h.elim)
def d_sort (ω : wS) : zPT := fun as σ K => match as with
  | [.ref x, .int i] => w_ok σ x ω ∧ m_ix i 41 ∧ 1 ≤ i.toNatClampNeg ∧ ∀ σ', w_ok σ' x (m_sort ω i.toNatClampNeg).1 → w_kp σ σ' → K (some (.int (m_sort ω i.toNatClampNeg).2)) σ'
  | _ => False
theorem cd_sort (l : Launch) (ω : wS) : z_Ct l yX7_sort cX7_sort 6 (some .int) rX7_sort (d_sort ω) 0 0 := (ctX7_sort l).weaken (fun as σ K h => by
  unfold d_sort at h
  split at h
  · obtain ⟨⟨E, lg, lg', og, rg, h1⟩, g0, g1, hK⟩ := h
    obtain ⟨i0, hi, rfl, ei⟩ := m_ix_of g0
    rw [ei] at g1 hK
    exact ⟨_, E, lg, lg', og, rg, ω, i0, h1, rfl, rfl, g1, by omega, fun σ' hr hk => hK σ' ⟨E, lg, lg', og, rg, hr⟩ hk⟩
  · exact h.elim)
def d_share (ω : wS) : zPT := fun as σ K => match as with
  | [.ref x] => w_ok σ x ω ∧ ∀ σ', w_ok σ' x (m_shares (v_Q (w_ρ ω) 17).length ω) → w_kp σ σ' → K (some (.int (nI (v_Q (w_ρ ω) 17).length))) σ'
  | _ => False
theorem cd_share (l : Launch) (ω : wS) : z_Ct l yX7_share cX7_share 5 (some .int) rX7_share (d_share ω) 0 0 := (ctX7_share l).weaken (fun as σ K h => by
  unfold d_share at h
  split at h
  · obtain ⟨⟨E, lg, lg', og, rg, h1⟩, hK⟩ := h
    exact ⟨_, E, lg, lg', og, rg, ω, h1, rfl, fun σ' hr hk => hK σ' ⟨E, lg, lg', og, rg, hr⟩ hk⟩
  · exact h.elim)
def d_setP (r : Int32) : Prop := 0 ≤ r ∧ r ≤ 2
def d_settle (ω : wS) : zPT := fun as σ K => match as with
  | [.ref x, .int r] => w_ok σ x ω ∧ d_setP r ∧ ∀ σ', w_ok σ' x (m_settle ω r) → w_kp σ σ' → K (some (.int (w_costs (m_settle ω r)))) σ'
  | _ => False
theorem cd_settle (l : Launch) (ω : wS) : z_Ct l yX7_settle cX7_settle 7 (some .int) rX7_settle (d_settle ω) 0 0 := (ctX7_settle l).weaken (fun as σ K h => by
  unfold d_settle at h
  split at h
  · obtain ⟨⟨E, lg, lg', og, rg, h1⟩, g0, hK⟩ := h
    exact ⟨_, E, lg, lg', og, rg, ω, h1, rfl, g0.1, g0.2, fun σ' hr hk => hK σ' ⟨E, lg, lg', og, rg, hr⟩ hk⟩
  · exact h.elim)
def d_raftP (i m : Int32) (ω : wS) : Prop := 1 ≤ m ∧ m ≤ 6 ∧ (v_Q (w_ρ ω) (13 + i.toNatClampNeg)).Nodup ∧ w_nr ω < 78
def d_raft (ω : wS) : zPT := fun as σ K => match as with
  | [.ref x, .int i, .int j, .int m] => w_ok σ x ω ∧ m_ix i 4 ∧ m_ix j (w_no ω) ∧ d_raftP i m ω ∧ ∀ σ', w_ok σ' x (m_raft ω i.toNatClampNeg j.toNatClampNeg m) → w_kp σ σ' → K (some (.int (m_raftA ω i.toNatClampNeg j.toNatClampNeg m))) σ'
  | _ => False
theorem cd_raft (l : Launch) (ω : wS) : z_Ct l yX7_raft cX7_raft 7 (some .int) rX7_raft (d_raft ω) 2 123 := (ctX7_raft l).weaken (fun as σ K h => by
  unfold d_raft at h
  split at h
  · obtain ⟨⟨E, lg, lg', og, rg, h1⟩, g0, g1, g2, hK⟩ := h
    obtain ⟨i0, hi, rfl, ei⟩ := m_ix_of g0
    obtain ⟨j0, hj, rfl, ej⟩ := m_ix_of g1
    rw [ei, ej] at hK
    unfold d_raftP at g2
    rw [ei] at g2
    exact ⟨_, E, lg, lg', og, rg, ω, i0, j0, h1, rfl, rfl, hi, rfl, hj, g2.1, g2.2.1, g2.2.2.1, g2.2.2.2, fun σ' E' rg2 hr hk => hK σ' ⟨E', lg, lg', og, rg2, hr⟩ hk⟩
  · exact h.elim)
def d_raiseP (i : Int32) (ω : wS) : Prop := v_L (w_ρ ω) i.toNatClampNeg 6 = 4
def d_raise (ω : wS) : zPT := fun as σ K => match as with
  | [.ref x, .int i, .int j] => w_ok σ x ω ∧ m_ix i (v_n (w_ρ ω)) ∧ m_ix j 4 ∧ d_raiseP i ω ∧ ∀ σ', w_ok σ' x (m_raise ω i.toNatClampNeg j.toNatClampNeg) → w_kp σ σ' → K (some (.int (m_whose (m_raise ω i.toNatClampNeg j.toNatClampNeg) i.toNatClampNeg))) σ'
  | _ => False
theorem cd_raise (l : Launch) (ω : wS) : z_Ct l yX7_raise cX7_raise 4 (some .int) rX7_raise (d_raise ω) 0 0 := (ctX7_raise l).weaken (fun as σ K h => by
  unfold d_raise at h
  split at h
  · obtain ⟨⟨E, lg, lg', og, rg, h1⟩, g0, g1, g2, hK⟩ := h
    obtain ⟨i0, hi, rfl, ei⟩ := m_ix_of g0
    obtain ⟨j0, hj, rfl, ej⟩ := m_ix_of g1
    rw [ei, ej] at hK
    unfold d_raiseP at g2
    rw [ei] at g2
    exact ⟨_, E, lg, lg', og, rg, ω, i0, j0, h1, rfl, rfl, hi, rfl, hj, g2, fun σ' hr hk => hK σ' ⟨E, lg, lg', og, rg, hr⟩ hk⟩
  · exact h.elim)
def d_passP (m d : Int32) (ω : wS) : Prop := 0 ≤ m ∧ m ≤ 40 ∧ 1 ≤ d.toNatClampNeg ∧ m_psOk d.toNatClampNeg m ω
def d_pass (ω : wS) : zPT := fun as σ K => match as with
  | [.ref x, .int m, .int d] => w_ok σ x ω ∧ m_ix d 21 ∧ d_passP m d ω ∧ ∀ σ', w_ok σ' x (m_psL d.toNatClampNeg m ω 0).1 → w_kp σ σ' → K (some (.int (m_psL d.toNatClampNeg m ω 0).2)) σ'
  | _ => False
theorem cd_pass (l : Launch) (ω : wS) : z_Ct l yX7_pass cX7_pass 5 (some .int) rX7_pass (d_pass ω) 0 0 := (ctX7_pass l).weaken (fun as σ K h => by
  unfold d_pass at h
  split at h
  · obtain ⟨⟨E, lg, lg', og, rg, h1⟩, g0, g1, hK⟩ := h
    obtain ⟨d0, hd, rfl, ed⟩ := m_ix_of g0
    rw [ed] at hK
    unfold d_passP at g1
    rw [ed] at g1
    exact ⟨_, E, lg, lg', og, rg, ω, d0, h1, rfl, g1.1, g1.2.1, rfl, g1.2.2.1, by omega, g1.2.2.2, fun σ' hr hk => hK σ' ⟨E, lg, lg', og, rg, hr⟩ hk⟩
  · exact h.elim)
def d_digest (ω : wS) : zPT := fun as σ K => match as with
  | [.ref x] => w_ok σ x ω ∧ m_digOk (w_ρ ω) ∧ ∀ σ', w_ok σ' x ω → w_kp σ σ' → K (some (.long (m_dig ω))) σ'
  | _ => False
theorem cd_digest (l : Launch) (ω : wS) : z_Ct l yX7_digest cX7_digest 5 (some .long) rX7_digest (d_digest ω) 880 57640 := (ctX7_digest l).weaken (fun as σ K h => by
  unfold d_digest at h
  split at h
  · obtain ⟨⟨E, lg, lg', og, rg, h1⟩, g0, hK⟩ := h
    exact ⟨_, E, lg, lg', og, rg, ω, h1, rfl, g0, fun σ' E' lg2 hr hk => hK σ' ⟨E', lg, lg2, og, rg, hr⟩ hk⟩
  · exact h.elim)
