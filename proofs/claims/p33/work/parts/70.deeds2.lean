/-! ===== deeds keep the invariant ===== -/
theorem w_rft.mv {ω ω' : wS} (h : w_rft ω) (hm : v_mv (w_ρ ω) (w_ρ ω')) (hnr : w_nr ω' = w_nr ω) (hF : w_F ω' = w_F ω) : w_rft ω' := by
  obtain ⟨r1, r2⟩ := h
  unfold w_rft
  rw [hm.1, hm.2.1, hnr, hF]
  refine ⟨fun i hi h8 => ?_, fun j hj hlt => ?_⟩
  · have g := hm.2.2.2 i
    have h8' := g.2.1.mpr h8
    obtain ⟨j, hj, h10, hlt⟩ := r1 i hi h8'
    exact ⟨j, hj, (g.2.2 h8').1.trans h10, hlt⟩
  · obtain ⟨i, hi, h8, h10⟩ := r2 j hj hlt
    have g := hm.2.2.2 i
    exact ⟨i, hi, g.2.1.mp h8, (g.2.2 h8).1.trans h10⟩
/-- a deed on the river that leaves the sides as they are, but for the costs and the money -/
theorem w_inv.deed {ω ω' : wS} {t M D C C' : Nat} {B B' : Int} (h : w_inv ω t M D C B) (hi : v_inv (w_ρ ω')) (hm : v_mv (w_ρ ω) (w_ρ ω')) (hs : w_sd ω ω') (hB : w_mb ω' B') (hc : ∃ c, c ≤ C' ∧ w_costs ω' = nI c) : w_inv ω' t M D C' B' := by
  obtain ⟨s1, s2, s3, s4, s5, s6, s7⟩ := hs
  refine ⟨hi, h.wat.R hm.2.2.1, h.rft.mv hm s3 s4, ?_, fun j hj => ?_, fun j hj => ?_, ?_, ?_, fun j hj => ?_, fun j hj => ?_, fun o ho => ?_, hc, ?_, hB⟩
  · rw [hm.2.1]
    exact h.now
  · rw [s4]
    exact h.due j (by rw [← s3]; exact hj)
  · rw [s4]
    exact h.ow j (by rw [← s3]; exact hj)
  · rw [s3]
    exact h.nr
  · rw [s1]
    exact h.no
  · rw [s2]
    exact h.pay j (by rw [← s1]; exact hj)
  · rw [s5, s1]
    exact h.wod j (by rw [← s3]; exact hj)
  · rw [s7]
    exact h.mrk o ho
  · rw [s6]
    exact h.crw
theorem w_mb.eq {ω ω' : wS} {B : Int} (h : w_mb ω B) (e : ∀ o, w_O ω' o 1 = w_O ω o 1) : w_mb ω' B := fun o => by
  rw [e]
  exact h o
theorem w_inv.sV {ω : wS} {ρ : vR} {t M D C : Nat} {B : Int} (h : w_inv ω t M D C B) (hi : v_inv ρ) (hm : v_mv (w_ρ ω) ρ) : w_inv (w_sV ω ρ) t M D C B := h.deed (ω' := w_sV ω ρ) hi hm ⟨rfl, rfl, rfl, rfl, rfl, rfl, fun _ => rfl⟩ (h.mny.eq (ω' := w_sV ω ρ) (fun _ => rfl)) h.cst
theorem w_inv.roll {ω : wS} {t M D C r : Nat} {B : Int} (h : w_inv ω t M D C B) (hr : r < 6) : w_inv (w_sV ω (m_roll (w_ρ ω) r).1) t M D C B := h.sV (m_roll_st h.riv hr).1 (m_roll_st h.riv hr).2.1
theorem w_inv.pull {ω : wS} {t M D C r : Nat} {B : Int} (h : w_inv ω t M D C B) (hr : r < 6) : w_inv (w_sV ω (m_break (w_ρ ω) r)) t M D C B := h.sV (m_break_st h.riv hr).1 (m_break_st h.riv hr).2.1
theorem w_inv.storm {ω : wS} {t M D C m : Nat} {B : Int} (h : w_inv ω t M D C B) (hm : m ≤ (v_Q (w_ρ ω) 12).length) : w_inv (w_sV ω (m_stm m (w_ρ ω))) t M D C B := h.sV (m_stm_st m _ h.riv hm).1 (m_stm_st m _ h.riv hm).2.1
theorem w_inv.blast {ω : wS} {t M D C r q : Nat} {B : Int} (h : w_inv ω t M D C B) (hr : r < 6) (hq : q ∈ v_Q (w_ρ ω) (6 + r)) : w_inv (m_blast ω r q) t M D (C + 8) B := by
  obtain ⟨c, hc, ec⟩ := h.cst
  refine h.deed (ω' := m_blast ω r q) (m_blast_st h.riv hr hq).1 (m_blast_st h.riv hr hq).2.1 ⟨rfl, rfl, rfl, rfl, rfl, rfl, fun _ => rfl⟩ (h.mny.eq (ω' := m_blast ω r q) (fun _ => rfl)) ⟨c + 8, by omega, ?_⟩
  show w_costs ω + 8 = _
  rw [ec]
  exact nI_add c 8
theorem w_inv.push {ω : wS} {t M D C q r : Nat} {B : Int} (h : w_inv ω t M D C B) (hq : q < v_n (w_ρ ω)) (hr : r < 6) (h3 : v_L (w_ρ ω) q 6 = 3) : w_inv (m_push ω q r) t M D (C + 1) B ∧ v_mv (w_ρ ω) (w_ρ (m_push ω q r)) ∧ (v_L (m_receive (w_ρ ω) r q) q 6 = 1 ∨ v_L (m_receive (w_ρ ω) r q) q 6 = 2) := by
  obtain ⟨c, hc, ec⟩ := h.cst
  have hrow := h.riv.2.1 q hq
  have hm := h.riv.free hq (g_line0 (Or.inr (Or.inl h3)))
  have hdry := hrow.dry (by rw [h3]; decide)
  obtain ⟨s1, -, s3, -⟩ := m_recv_st hm hr hrow.1 hdry
  have mv := m_recv_mv hm hr hrow.1 hdry (by rw [h3]; decide) (by rw [h3]; decide)
  refine ⟨h.deed (ω' := m_push ω q r) s1 mv ⟨rfl, rfl, rfl, rfl, rfl, rfl, fun _ => rfl⟩ (h.mny.eq (ω' := m_push ω q r) (fun _ => rfl)) ⟨c + 1, by omega, ?_⟩, mv, s3⟩
  show w_costs ω + 1 = _
  rw [ec, nI_1]
theorem w_inv.sort {ω : wS} {t M D C m : Nat} {B : Int} (h : w_inv ω t M D C B) : w_inv (m_sort ω m).1 t M D (C + m) B := by
  obtain ⟨c, hc, ec⟩ := h.cst
  obtain ⟨b1, b2, b3, b4, b5, b6, b7⟩ := m_sort_st h.riv m
  exact h.deed b1 b2 b3 (h.mny.eq b4) ⟨c + min m (v_Q (w_ρ ω) 12).length, by omega, by rw [b5, ec, nI_add]⟩
theorem w_inv.share {ω : wS} {t M D C : Nat} {B : Int} (h : w_inv ω t M D C B) : w_inv (m_shares (v_Q (w_ρ ω) 17).length ω) t M D C B := by
  obtain ⟨c, hc, ec⟩ := h.cst
  obtain ⟨b1, b2, b3, b4, b5, b6⟩ := m_shares_st (v_Q (w_ρ ω) 17).length ω h.riv (Nat.le_refl _)
  exact h.deed b1 b2 b3 (h.mny.eq b4) ⟨c, hc, by rw [b5, ec]⟩
