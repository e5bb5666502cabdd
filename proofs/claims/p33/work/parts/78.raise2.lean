/-! ===== raising, rafts, the start ===== -/
theorem w_inv.le {ω : wS} {t t' M D D' C C' : Nat} {B B' : Int} (h : w_inv ω t M D C B) (ht : t ≤ t') (hD : D ≤ D') (hC : C ≤ C') (hB : B ≤ B') : w_inv ω t' M D' C' B' := by
  obtain ⟨d, hd, ed⟩ := h.now
  obtain ⟨c, hc, ec⟩ := h.cst
  have hnr := h.nr
  refine ⟨h.riv, h.wat, h.rft, ⟨d, by omega, ed⟩, fun j hj => ?_, h.ow, by omega, h.no, h.pay, h.wod, h.mrk, ⟨c, by omega, ec⟩, h.crw, fun o => ?_⟩
  · obtain ⟨e, he, ee⟩ := h.due j hj
    exact ⟨e, by omega, ee⟩
  · have := h.mny o
    omega
theorem w_lo.le {ω : wS} {A A' : Int} (h : w_lo ω A) (hA : A ≤ A') : w_lo ω A' := fun o => by
  have := h o
  omega
theorem w_lo.eq {ω ω' : wS} {A : Int} (h : w_lo ω A) (e : ∀ o, w_O ω' o 1 = w_O ω o 1) : w_lo ω' A := fun o => by
  rw [e]
  exact h o
theorem w_lo.mn {ω ω' : wS} {A c : Int} (h : w_lo ω A) (e : w_mn ω ω' c) : w_lo ω' A := fun o => by
  have := h o
  have := e o
  omega
/-- a raised log -/
theorem m_raiseV_ne {ω : wS} {q o i : Nat} (hi : i ≠ q) : v_L (m_raiseV ω q o) i = v_L (w_ρ ω) i := by
  unfold m_raiseV
  split
  · rw [v_L_ne hi, v_L_ne hi, v_L_ne hi]
  · rw [v_L_ne hi, v_L_ne hi]
theorem m_raiseV_q {ω : wS} {q o : Nat} : v_L (m_raiseV ω q o) q 6 = 3 ∧ v_L (m_raiseV ω q o) q 5 = 0 ∧ (v_L (m_raiseV ω q o) q 4 = w_O ω o 0 ∨ v_L (m_raiseV ω q o) q 4 = v_L (w_ρ ω) q 4) ∧ ∀ f, f ≠ 6 → f ≠ 5 → f ≠ 4 → v_L (m_raiseV ω q o) q f = v_L (w_ρ ω) q f := by
  unfold m_raiseV
  split
  · refine ⟨by rw [v_L_nf (by decide), v_L_nf (by decide), v_L_eq], by rw [v_L_nf (by decide), v_L_eq], Or.inl v_L_eq, fun f h6 h5 h4 => by rw [v_L_nf h4, v_L_nf h5, v_L_nf h6]⟩
  · refine ⟨by rw [v_L_nf (by decide), v_L_eq], v_L_eq, Or.inr (by rw [v_L_nf (by decide), v_L_nf (by decide)]), fun f h6 h5 h4 => by rw [v_L_nf h5, v_L_nf h6]⟩
theorem m_raiseV_o {ω : wS} {q o : Nat} : v_n (m_raiseV ω q o) = v_n (w_ρ ω) ∧ v_now (m_raiseV ω q o) = v_now (w_ρ ω) ∧ v_R (m_raiseV ω q o) = v_R (w_ρ ω) ∧ v_Q (m_raiseV ω q o) = v_Q (w_ρ ω) := by
  unfold m_raiseV
  split
  · exact ⟨rfl, rfl, rfl, rfl⟩
  · exact ⟨rfl, rfl, rfl, rfl⟩
theorem w_inv.raise {ω : wS} {t M D C q o : Nat} {B A : Int} (h : w_inv ω t M D C B) (hl : w_lo ω A) (hA : A + 4 ≤ 1000000) (hq : q < v_n (w_ρ ω)) (ho : o < 4) (h4 : v_L (w_ρ ω) q 6 = 4) : w_inv (m_raise ω q o) t M D C B ∧ w_lo (m_raise ω q o) (A + 4) := by
  have hrow := h.riv.2.1 q hq
  obtain ⟨a6, a5, a4, af⟩ := m_raiseV_q (ω := ω) (q := q) (o := o)
  obtain ⟨b1, b2, b3, b4⟩ := m_raiseV_o (ω := ω) (q := q) (o := o)
  have am : ¬ v_L (m_raiseV ω q o) q 4 < 0 ∧ v_L (m_raiseV ω q o) q 4 < 64 := by
    rcases a4 with e | e
    · rw [e]
      exact h.mrk o ho
    · rw [e]
      exact hrow.1.2.2.2
  have eρ : w_ρ (m_raise ω q o) = m_raiseV ω q o := rfl
  have eO : ∀ k f, w_O (m_raise ω q o) k f = if k = o ∧ f = 1 then w_O ω o 1 - 4 else w_O ω k f := fun k f => rfl
  have hi : v_inv (m_raiseV ω q o) := by
    refine h.riv.but b1 b4 (fun i hi => ?_) (fun i hi => ?_)
    · by_cases z : i = q
      · rw [z]
        refine ⟨?_, ?_, ?_⟩
        · unfold g_bd
          rw [af 1 (by decide) (by decide) (by decide), af 2 (by decide) (by decide) (by decide), af 3 (by decide) (by decide) (by decide)]
          exact ⟨hrow.1.1, hrow.1.2.1, hrow.1.2.2.1, am⟩
        · unfold g_wt
          rw [a5, af 1 (by decide) (by decide) (by decide)]
          obtain ⟨k', hk', e, -⟩ := m_small (k := 3) hrow.1.1 (by decide)
          rw [e]
          exact ⟨by decide, by decide, Or.inr (g_lim0 k' hk')⟩
        · unfold g_pl
          rw [a6, af 7 (by decide) (by decide) (by decide)]
          rcases hrow.2.2 with ⟨-, y⟩ | ⟨y, -⟩ | ⟨y, -⟩
          · exact Or.inl ⟨Or.inr (Or.inr (Or.inr (Or.inl rfl))), y⟩
          · rw [h4] at y
            rcases y with y | y | y <;> exact absurd y (by decide)
          · rw [h4] at y
            rcases y with y | y | y <;> exact absurd y (by decide)
      · rw [m_raiseV_ne z]
        exact h.riv.2.1 i hi
    · by_cases z : i = q
      · rw [z, g_line0 (Or.inr (Or.inl a6)), g_line0 (Or.inr (Or.inr (Or.inl h4)))]
      · rw [m_raiseV_ne z]
  have key : ∀ k, -A - 4 ≤ (w_O (m_raise ω q o) k 1).toInt ∧ (w_O (m_raise ω q o) k 1).toInt ≤ (w_O ω k 1).toInt := fun k => by
    have h1 := hl o
    have h2 := (w_O ω o 1).toInt_lt
    have h3 := hl k
    rw [eO]
    by_cases z : k = o
    · rw [if_pos ⟨z, rfl⟩, z]
      have e : (4 : Int32).toInt = 4 := by decide
      have e2 : (w_O ω o 1 - 4).toInt = (w_O ω o 1).toInt - (4 : Int32).toInt := g_sub (by omega) (by omega)
      rw [e2, e]
      omega
    · rw [if_neg (fun y => z y.1)]
      omega
  have p8 : ∀ i, (v_L (w_ρ ω) i 6 = 8 ↔ v_L (m_raiseV ω q o) i 6 = 8) ∧ v_L (m_raiseV ω q o) i 10 = v_L (w_ρ ω) i 10 := fun i => by
    by_cases z : i = q
    · rw [z, a6, h4]
      exact ⟨⟨fun y => absurd y (by decide), fun y => absurd y (by decide)⟩, af 10 (by decide) (by decide) (by decide)⟩
    · rw [m_raiseV_ne z]
      exact ⟨Iff.rfl, rfl⟩
  refine ⟨⟨hi, h.wat.R b3, ⟨fun i hi' h8 => ?_, fun j hj hlt => ?_⟩, ?_, h.due, h.ow, h.nr, h.no, h.pay, h.wod, fun k hk => ?_, h.cst, h.crw, fun k => ?_⟩, fun k => ?_⟩
  · rw [eρ] at hi' h8 ⊢
    rw [b1] at hi'
    obtain ⟨j, hj, e10, hd⟩ := h.rft.1 i hi' ((p8 i).1.mpr h8)
    exact ⟨j, hj, (p8 i).2.trans e10, by rw [b2]; exact hd⟩
  · rw [eρ] at hlt ⊢
    rw [b2] at hlt
    obtain ⟨i, hi', e8, e10⟩ := h.rft.2 j hj hlt
    exact ⟨i, by rw [b1]; exact hi', (p8 i).1.mp e8, (p8 i).2.trans e10⟩
  · rw [eρ, b2]
    exact h.now
  · rw [eO, if_neg (fun y => absurd y.2 (by decide))]
    exact h.mrk k hk
  · have := key k
    have := (h.mny k).2
    omega
  · have := key k
    omega
/-- a raft is loaded -/
theorem g_div3 : ∀ k : Nat, k < 7 → nI k / 3 = nI (k / 3) := by decide
theorem w_inv.raft {ω : wS} {t M D C o w m : Nat} {B : Int} (h : w_inv ω t M D C B) (ht : t < 1000) (hD : D < 5000) (ho : o < 4) (hw : w < w_no ω) (hm : m ≤ 6) : w_inv (m_raft ω o w (nI m)) (t + 1) M D C B ∧ (∀ i, g_mn (v_L (w_ρ ω) i) (v_L (w_ρ (m_raft ω o w (nI m))) i)) ∧ v_n (w_ρ (m_raft ω o w (nI m))) = v_n (w_ρ ω) ∧ (∀ k, w_O (m_raft ω o w (nI m)) k 1 = w_O ω k 1) ∧ w_costs (m_raft ω o w (nI m)) = w_costs ω ∧ w_crew (m_raft ω o w (nI m)) = w_crew ω ∧ w_no (m_raft ω o w (nI m)) = w_no ω ∧ ((m_raftA ω o w (nI m) = -2 ∧ (v_Q (w_ρ (m_raft ω o w (nI m))) (13 + o)).length = (v_Q (w_ρ ω) (13 + o)).length) ∨ ∃ k, 0 < k ∧ k ≤ 6 ∧ m_raftA ω o w (nI m) = nI k ∧ (v_Q (w_ρ (m_raft ω o w (nI m))) (13 + o)).length + k = (v_Q (w_ρ ω) (13 + o)).length) := by
  have hL := m_ld_st o ho (w_P ω w 0) (w_P ω w 1) (nI (w_nr ω)) m (by omega) (v_Q (w_ρ ω) (13 + o)) (w_ρ ω) 0 (by decide) h.riv (h.riv.nodup (by omega)) (fun i hi => hi)
  have eL : m_ld (13 + o) (w_P ω w 0) (w_P ω w 1) (nI (w_nr ω)) (nI m) (v_Q (w_ρ ω) (13 + o)) (w_ρ ω) 0 = m_raftL ω o w (nI m) := rfl
  rw [eL] at hL
  obtain ⟨l1, l2, l3, l4, l5, l6, -, l8, l9, l10, l11⟩ := hL
  have hnr := h.nr
  obtain ⟨d, hd, ed⟩ := h.now
  by_cases hk : (m_raftL ω o w (nI m)).2 = 0
  · have e : m_raft ω o w (nI m) = w_sV ω (m_raftL ω o w (nI m)).1 := by
      unfold m_raft
      rw [if_pos hk]
    have ea : m_raftA ω o w (nI m) = -2 := by
      unfold m_raftA
      rw [if_pos hk]
    have l10' := l10 hk
    rw [e, ea]
    have mv : v_mv (w_ρ ω) (m_raftL ω o w (nI m)).1 := ⟨l2, l3, l4, fun i => by
      rw [l10' i]
      exact g_mv.rf⟩
    refine ⟨(h.sV l1 mv).le (by omega) (Nat.le_refl _) (Nat.le_refl _) (Int.le_refl _), l5, l2, fun _ => rfl, rfl, rfl, rfl, Or.inl ⟨rfl, ?_⟩⟩
    rw [hk] at l9
    exact l9
  · have e : m_raft ω o w (nI m) = w_aF (w_sV ω (m_raftL ω o w (nI m)).1) (nI o) (v_now (m_raftL ω o w (nI m)).1 + 2 + nI (m_raftL ω o w (nI m)).2 / 3) w := by
      unfold m_raft
      rw [if_neg hk]
    have ea : m_raftA ω o w (nI m) = nI (m_raftL ω o w (nI m)).2 := by
      unfold m_raftA
      rw [if_neg hk]
    rw [e, ea]
    generalize m_raftL ω o w (nI m) = P at l1 l2 l3 l4 l5 l6 l8 l9 l10 l11 hk
    obtain ⟨ρ', k⟩ := P
    dsimp only at l1 l2 l3 l4 l5 l6 l8 l9 l10 l11 hk ⊢
    have hk6 : k ≤ 6 := by
      have := l8 (by omega)
      omega
    have edue : v_now ρ' + 2 + nI k / 3 = nI (d + 2 + k / 3) := by
      rw [l3, ed, g_div3 k (by omega)]
      have e2 : nI d + 2 = nI (d + 2) := nI_add d 2
      rw [e2, nI_add]
    rw [edue]
    obtain ⟨i0, hi0, e80, e100⟩ := l11 (by omega)
    have eF : ∀ j f, w_F (w_aF (w_sV ω ρ') (nI o) (nI (d + 2 + k / 3)) w) j f = if j = w_nr ω then (if f = 0 then nI o else nI (d + 2 + k / 3)) else w_F ω j f := fun j f => rfl
    have eW : ∀ j, w_W (w_aF (w_sV ω ρ') (nI o) (nI (d + 2 + k / 3)) w) j = if j = w_nr ω then w else w_W ω j := fun j => rfl
    have eρ : w_ρ (w_aF (w_sV ω ρ') (nI o) (nI (d + 2 + k / 3)) w) = ρ' := rfl
    have enr : w_nr (w_aF (w_sV ω ρ') (nI o) (nI (d + 2 + k / 3)) w) = w_nr ω + 1 := rfl
    refine ⟨⟨l1, h.wat.R l4, ⟨fun i hi' h8 => ?_, fun j hj hlt => ?_⟩, ⟨d, hd, l3.trans ed⟩, fun j hj => ?_, fun j hj => ?_, by rw [enr]; omega, h.no, h.pay, fun j hj => ?_, h.mrk, h.cst, h.crw, h.mny⟩, l5, l2, fun _ => rfl, rfl, rfl, rfl, Or.inr ⟨k, by omega, hk6, rfl, by rw [eρ]; omega⟩⟩
    · rw [eρ] at hi' h8 ⊢
      rw [l2] at hi'
      have new : ∀ (e10 : v_L ρ' i 10 = nI (w_nr ω)), ∃ j, j < w_nr (w_aF (w_sV ω ρ') (nI o) (nI (d + 2 + k / 3)) w) ∧ v_L ρ' i 10 = nI j ∧ v_now ρ' < w_F (w_aF (w_sV ω ρ') (nI o) (nI (d + 2 + k / 3)) w) j 2 := fun e10 => by
        refine ⟨w_nr ω, by rw [enr]; omega, e10, ?_⟩
        rw [eF, if_pos rfl, if_neg (by decide), l3, ed]
        exact nI_lt (by omega) (by omega)
      rcases l6 i with z | ⟨-, -, z⟩
      · rw [z] at h8
        obtain ⟨j, hj, e10, hlt⟩ := h.rft.1 i hi' h8
        refine ⟨j, by rw [enr]; omega, by rw [z]; exact e10, ?_⟩
        rw [eF, if_neg (by omega), l3]
        exact hlt
      · exact new z
    · rw [eρ] at hlt ⊢
      rw [enr] at hj
      by_cases z : j = w_nr ω
      · rw [z]
        exact ⟨i0, by rw [l2]; exact hi0, e80, e100⟩
      · rw [eF, if_neg z, l3] at hlt
        obtain ⟨i, hi', e8, e10⟩ := h.rft.2 j (by omega) hlt
        refine ⟨i, by rw [l2]; exact hi', ?_⟩
        rcases l6 i with y | ⟨y, -, -⟩
        · rw [y]
          exact ⟨e8, e10⟩
        · rw [e8] at y
          exact absurd y (by decide)
    · rw [enr] at hj
      by_cases z : j = w_nr ω
      · exact ⟨d + 2 + k / 3, by omega, by rw [eF, if_pos z, if_neg (by decide)]⟩
      · obtain ⟨e, he, ee⟩ := h.due j (by omega)
        exact ⟨e, he, by rw [eF, if_neg z]; exact ee⟩
    · rw [enr] at hj
      rw [eF]
      by_cases z : j = w_nr ω
      · rw [if_pos z, if_pos rfl]
        exact ⟨nI_pos (by omega), nI_lt (b := 4) ho (by decide)⟩
      · rw [if_neg z]
        exact h.ow j (by omega)
    · rw [enr] at hj
      rw [eW]
      by_cases z : j = w_nr ω
      · rw [if_pos z]
        exact hw
      · rw [if_neg z]
        exact h.wod j (by omega)
/-- the start -/
theorem w_inv_w0 : w_inv m_w0 0 0 0 0 0 ∧ w_lo m_w0 0 := by
  have hn : v_n (w_ρ m_w0) = 0 := rfl
  refine ⟨⟨⟨by decide, fun i hi => absurd hi (Nat.not_lt_zero i), fun q hq => ⟨List.nodup_nil, fun i => ⟨fun z => absurd z List.not_mem_nil, fun z => absurd z.1 (Nat.not_lt_zero i)⟩⟩⟩, ⟨⟨fun _ => 0, fun r hr => rfl, by decide⟩, fun r hr => ⟨⟨by show ¬ (3 : Int32) < 0; decide, by show (3 : Int32) < 4; decide⟩, by show ¬ (0 : Int32) < 0; decide, by show (0 : Int32) < 31; decide⟩⟩, ⟨fun i hi => absurd hi (Nat.not_lt_zero i), fun j hj => absurd hj (Nat.not_lt_zero j)⟩, ⟨0, Nat.le_refl _, rfl⟩, fun j hj => absurd hj (Nat.not_lt_zero j), fun j hj => absurd hj (Nat.not_lt_zero j), Nat.le_refl _, by decide, fun j hj => absurd hj (Nat.not_lt_zero j), fun j hj => absurd hj (Nat.not_lt_zero j), fun o ho => ⟨by show ¬ (0 : Int32) < 0; decide, by show (0 : Int32) < 64; decide⟩, ⟨0, Nat.le_refl _, rfl⟩, ⟨0, by decide, rfl⟩, fun o => ?_⟩, fun o => ?_⟩
  · show -1000000 ≤ (0 : Int32).toInt ∧ (0 : Int32).toInt ≤ 0
    decide
  · show -0 ≤ (0 : Int32).toInt
    decide
