/-! ===== crew, gate, order ===== -/
theorem w_inv.crew {ω : wS} {t M D C k : Nat} {B : Int} (h : w_inv ω t M D C B) (hk : k ≤ 20) : w_inv (w_sC ω (nI k)) t M D C B := ⟨h.riv, h.wat, h.rft, h.now, h.due, h.ow, h.nr, h.no, h.pay, h.wod, h.mrk, h.cst, ⟨k, hk, rfl⟩, h.mny⟩
theorem w_inv.reach {ω : wS} {t M D C r f : Nat} {B : Int} {x : Int32} (h : w_inv ω t M D C B) (hf : f = 3 ∨ (f = 2 ∧ ¬ x < 0 ∧ x < 4)) : w_inv (w_sV ω (v_sR (w_ρ ω) r f x)) t M D C B := by
  refine ⟨h.riv.sm (v_sm.sR r f x), ?_, h.rft, h.now, h.due, h.ow, h.nr, h.no, h.pay, h.wod, h.mrk, h.cst, h.crw, h.mny⟩
  obtain ⟨⟨W, hW, hs⟩, hg⟩ := h.wat
  refine ⟨⟨W, fun r' hr => ?_, hs⟩, fun r' hr => ?_⟩
  · show v_R (v_sR (w_ρ ω) r f x) r' 1 = _
    rw [v_R_sR, if_neg (fun z => by omega)]
    exact hW r' hr
  · show (¬ v_R (v_sR (w_ρ ω) r f x) r' 2 < 0 ∧ v_R (v_sR (w_ρ ω) r f x) r' 2 < 4) ∧ ¬ v_R (v_sR (w_ρ ω) r f x) r' 4 < 0 ∧ v_R (v_sR (w_ρ ω) r f x) r' 4 < 31
    have e4 : v_R (v_sR (w_ρ ω) r f x) r' 4 = v_R (w_ρ ω) r' 4 := by rw [v_R_sR, if_neg (fun z => by omega)]
    rw [e4, v_R_sR]
    refine ⟨?_, (hg r' hr).2⟩
    by_cases z : r' = r ∧ 2 = f
    · rw [if_pos z]
      rcases hf with y | ⟨-, y⟩
      · omega
      · exact y
    · rw [if_neg z]
      exact (hg r' hr).1
theorem w_inv.order {ω : wS} {t M D C : Nat} {B : Int} {k l p d : Int32} (h : w_inv ω t M D C B) (hno : w_no ω < 6) (hp : 1 ≤ p ∧ p < 10) : w_inv (m_order ω k l p d) t M D C B := by
  refine ⟨h.riv, h.wat, h.rft, h.now, h.due, h.ow, h.nr, ?_, fun j hj => ?_, fun j hj => ?_, h.mrk, h.cst, h.crw, h.mny⟩
  · show w_no ω + 1 ≤ 6
    omega
  · show 1 ≤ (if j = w_no ω then m_odF k l p (v_now (w_ρ ω) + d) 2 else w_P ω j 2) ∧ (if j = w_no ω then m_odF k l p (v_now (w_ρ ω) + d) 2 else w_P ω j 2) < 10
    by_cases z : j = w_no ω
    · rw [if_pos z]
      exact hp
    · rw [if_neg z]
      have hj' : j < w_no ω + 1 := hj
      exact h.pay j (by omega)
  · have := h.wod j hj
    show w_W ω j < w_no ω + 1
    omega
theorem w_inv.mark {ω : wS} {t M D C k : Nat} {B : Int} {x : Int32} (h : w_inv ω t M D C B) (hx : ¬ x < 0 ∧ x < 64) : w_inv (w_sO ω k 0 x) t M D C B := by
  refine ⟨h.riv, h.wat, h.rft, h.now, h.due, h.ow, h.nr, h.no, h.pay, h.wod, fun o ho => ?_, h.cst, h.crw, fun o => ?_⟩
  · show ¬ (if o = k ∧ 0 = 0 then x else w_O ω o 0) < 0 ∧ (if o = k ∧ 0 = 0 then x else w_O ω o 0) < 64
    by_cases z : o = k
    · rw [if_pos ⟨z, rfl⟩]
      exact hx
    · rw [if_neg (fun y => z y.1)]
      exact h.mrk o ho
  · show -1000000 ≤ (if o = k ∧ 1 = 0 then x else w_O ω o 1).toInt ∧ (if o = k ∧ 1 = 0 then x else w_O ω o 1).toInt ≤ B
    rw [if_neg (fun y => absurd y.2 (by decide))]
    exact h.mny o
