/-! ===== how a day and a deed move a river ===== -/
/-- what never turns back, and what a raft holds -/
def g_mn (F F' : Nat → Int32) : Prop := (8 < F 6 → F' 6 = F 6) ∧ (¬ F 6 = 0 → ¬ F' 6 = 0) ∧ F' 4 &&& F 4 = F' 4
def g_mv (F F' : Nat → Int32) : Prop := g_mn F F' ∧ (F 6 = 8 ↔ F' 6 = 8) ∧ (F 6 = 8 → F' 10 = F 10 ∧ F' 9 = F 9)
theorem g_mn.rf {F : Nat → Int32} : g_mn F F := ⟨fun _ => rfl, fun h => h, Int32.and_self⟩
theorem g_mv.rf {F : Nat → Int32} : g_mv F F := ⟨g_mn.rf, Iff.rfl, fun _ => ⟨rfl, rfl⟩⟩
theorem g_mn.tr {F F' F'' : Nat → Int32} (h : g_mn F F') (h' : g_mn F' F'') : g_mn F F'' := by
  obtain ⟨a, b, c⟩ := h
  obtain ⟨a', b', c'⟩ := h'
  refine ⟨fun z => (a' (by rw [a z]; exact z)).trans (a z), fun z => b' (b z), ?_⟩
  rw [← c', Int32.and_assoc, c]
theorem g_mv.tr {F F' F'' : Nat → Int32} (h : g_mv F F') (h' : g_mv F' F'') : g_mv F F'' := by
  obtain ⟨a, b, c⟩ := h
  obtain ⟨a', b', c'⟩ := h'
  exact ⟨a.tr a', b.trans b', fun z => ⟨(c' (b.mp z)).1.trans (c z).1, (c' (b.mp z)).2.trans (c z).2⟩⟩
theorem g_mv.of {F F' : Nat → Int32} (h : ¬ 8 < F 6) (h8 : ¬ F 6 = 8) (h0 : ¬ F' 6 = 0) (h8' : ¬ F' 6 = 8) (h4 : F' 4 &&& F 4 = F' 4) : g_mv F F' := ⟨⟨fun z => absurd z h, fun _ => h0, h4⟩, ⟨fun z => absurd z h8, fun z => absurd z h8'⟩, fun z => absurd z h8⟩
def v_mv (ρ ρ' : vR) : Prop := v_n ρ' = v_n ρ ∧ v_now ρ' = v_now ρ ∧ v_R ρ' = v_R ρ ∧ ∀ i, g_mv (v_L ρ i) (v_L ρ' i)
theorem v_mv.rf {ρ : vR} : v_mv ρ ρ := ⟨rfl, rfl, rfl, fun _ => g_mv.rf⟩
theorem v_mv.tr {ρ ρ' ρ'' : vR} (h : v_mv ρ ρ') (h' : v_mv ρ' ρ'') : v_mv ρ ρ'' := ⟨h'.1.trans h.1, h'.2.1.trans h.2.1, h'.2.2.1.trans h.2.2.1, fun i => (h.2.2.2 i).tr (h'.2.2.2 i)⟩
theorem v_mv.sQ {ρ : vR} (q : Nat) (xs : List Nat) : v_mv ρ (v_sQ ρ q xs) := ⟨rfl, rfl, rfl, fun _ => g_mv.rf⟩
theorem v_mv.one {ρ ρ' : vR} {x : Nat} (hn : v_n ρ' = v_n ρ) (hw : v_now ρ' = v_now ρ) (hR : v_R ρ' = v_R ρ) (hL : ∀ i, i ≠ x → v_L ρ' i = v_L ρ i) (hg : g_mv (v_L ρ x) (v_L ρ' x)) : v_mv ρ ρ' := ⟨hn, hw, hR, fun i => by
  by_cases e : i = x
  · rw [e]
    exact hg
  · rw [hL i e]
    exact g_mv.rf⟩
theorem v_L_ne {ρ : vR} {x i f : Nat} {v : Int32} (h : i ≠ x) : v_L (v_sL ρ x f v) i = v_L ρ i := by
  funext f'
  rw [v_L_sL, if_neg (fun z => h z.1)]
theorem v_L_eq {ρ : vR} {x f : Nat} {v : Int32} : v_L (v_sL ρ x f v) x f = v := by rw [v_L_sL, if_pos ⟨rfl, rfl⟩]
theorem v_L_nf {ρ : vR} {x f f' : Nat} {v : Int32} (h : f' ≠ f) : v_L (v_sL ρ x f v) x f' = v_L ρ x f' := by rw [v_L_sL, if_neg (fun z => h z.2)]
/-- strokes: clearing the lowest, or the highest, only takes away -/
theorem g_s1 {s : Int32} (h : ¬ s < 0 ∧ s < 64) : (¬ (s &&& (s - 1)) < 0 ∧ (s &&& (s - 1)) < 64) ∧ (s &&& (s - 1)) &&& s = (s &&& (s - 1)) := by
  obtain ⟨k, hk, rfl, -⟩ := m_small (k := 64) h (by decide)
  revert k
  decide +kernel
theorem g_s6 {s : Int32} (h : ¬ s < 0 ∧ s < 64) : (¬ m_lgk 6 s < 0 ∧ m_lgk 6 s < 64) ∧ m_lgk 6 s &&& s = m_lgk 6 s := by
  obtain ⟨k, hk, rfl, -⟩ := m_small (k := 64) h (by decide)
  revert k
  decide +kernel
/-- a row whose wood is dry enough to be at any place -/
def g_dry (F : Nat → Int32) : Prop := ¬ F 5 < 0 ∧ F 5 < 25 ∧ F 5 < m_lim (F 1)
theorem g_row.dry {F : Nat → Int32} (h : g_row F) (h4 : ¬ F 6 = 4) : g_dry F := ⟨h.2.1.1, h.2.1.2.1, h.2.1.2.2.resolve_left h4⟩
theorem g_row_of {F F' : Nat → Int32} (hb : g_bd F) (hd : g_dry F) (h1 : F' 1 = F 1) (h2 : F' 2 = F 2) (h3 : F' 3 = F 3) (h4 : ¬ F' 4 < 0 ∧ F' 4 < 64) (h5 : F' 5 = F 5) (hp : g_pl F') : g_row F' := by
  unfold g_row g_bd g_wt
  rw [h1, h2, h3, h5]
  exact ⟨⟨hb.1, hb.2.1, hb.2.2.1, h4⟩, ⟨hd.1, hd.2.1, Or.inr hd.2.2⟩, hp⟩
theorem m_recv1_row (ρ : vR) (r x : Nat) (h4 : ¬ v_L ρ x 4 < 0 ∧ v_L ρ x 4 < 64) : v_L (m_recv1 ρ r x) x 7 = nI r ∧ ((¬ v_L (m_recv1 ρ r x) x 4 < 0 ∧ v_L (m_recv1 ρ r x) x 4 < 64) ∧ v_L (m_recv1 ρ r x) x 4 &&& v_L ρ x 4 = v_L (m_recv1 ρ r x) x 4) ∧ (∀ f, f ≠ 7 → f ≠ 4 → v_L (m_recv1 ρ r x) x f = v_L ρ x f) ∧ ∀ i, i ≠ x → v_L (m_recv1 ρ r x) i = v_L ρ i := by
  unfold m_recv1
  split
  · refine ⟨?_, ?_, fun f h7 h4' => ?_, fun i hi => ?_⟩
    · rw [v_L_nf (by decide), v_L_eq]
    · rw [v_L_eq]
      exact g_s1 h4
    · rw [v_L_nf h4', v_L_nf h7]
    · rw [v_L_ne hi, v_L_ne hi]
  · refine ⟨v_L_eq, ?_, fun f h7 h4' => v_L_nf h7, fun i hi => v_L_ne hi⟩
    rw [v_L_nf (by decide)]
    exact ⟨h4, Int32.and_self⟩
theorem m_recv1_mid {ρ : vR} {r x : Nat} (h : v_mid ρ x) : v_mid (m_recv1 ρ r x) x := by
  unfold m_recv1
  split
  · exact (h.sL _ _).sL _ _
  · exact h.sL _ _
/-- a reach receives a log -/
theorem m_recv_st {ρ : vR} {r x : Nat} (h : v_mid ρ x) (hr : r < 6) (hb : g_bd (v_L ρ x)) (hd : g_dry (v_L ρ x)) : v_inv (m_receive ρ r x) ∧ (∀ i, i ≠ x → v_L (m_receive ρ r x) i = v_L ρ i) ∧ (v_L (m_receive ρ r x) x 6 = 1 ∨ v_L (m_receive ρ r x) x 6 = 2) ∧ v_L (m_receive ρ r x) x 4 &&& v_L ρ x 4 = v_L (m_receive ρ r x) x 4 := by
  obtain ⟨e7, ⟨e4, e4'⟩, eo, en⟩ := m_recv1_row ρ r x hb.2.2.2
  have h1 : v_mid (m_recv1 ρ r x) x := m_recv1_mid h
  unfold m_receive
  generalize m_recv1 ρ r x = ρ1 at e7 e4 e4' eo en h1
  have key : ∀ p : Int32, (p = 1 ∨ p = 2) → g_row (v_L (v_sL ρ1 x 6 p) x) := fun p hp => by
    refine g_row_of hb hd ?_ ?_ ?_ ?_ ?_ ?_
    · rw [v_L_nf (by decide), eo 1 (by decide) (by decide)]
    · rw [v_L_nf (by decide), eo 2 (by decide) (by decide)]
    · rw [v_L_nf (by decide), eo 3 (by decide) (by decide)]
    · rw [v_L_nf (by decide)]
      exact e4
    · rw [v_L_nf (by decide), eo 5 (by decide) (by decide)]
    · refine Or.inl ⟨?_, r, hr, ?_⟩
      · rw [v_L_eq]
        rcases hp with e | e
        · exact Or.inr (Or.inl e)
        · exact Or.inr (Or.inr (Or.inl e))
      · rw [v_L_nf (by decide)]
        exact e7
  unfold m_recv2
  split
  · refine ⟨(h1.sL 6 2).put (key 2 (Or.inr rfl)) (g_line2 v_L_eq (by rw [v_L_nf (by decide)]; exact e7) hr), fun i hi => ?_, Or.inr ?_, ?_⟩
    · rw [← en i hi]
      exact v_L_ne hi
    · exact v_L_eq
    · have e : v_L (v_sL ρ1 x 6 2) x 4 = v_L ρ1 x 4 := v_L_nf (by decide)
      show v_L (v_sL ρ1 x 6 2) x 4 &&& _ = v_L (v_sL ρ1 x 6 2) x 4
      rw [e]
      exact e4'
  · refine ⟨(h1.sL 6 1).put (key 1 (Or.inl rfl)) (g_line1 v_L_eq (by rw [v_L_nf (by decide)]; exact e7) hr), fun i hi => ?_, Or.inl ?_, ?_⟩
    · rw [← en i hi]
      exact v_L_ne hi
    · exact v_L_eq
    · have e : v_L (v_sL ρ1 x 6 1) x 4 = v_L ρ1 x 4 := v_L_nf (by decide)
      show v_L (v_sL ρ1 x 6 1) x 4 &&& _ = v_L (v_sL ρ1 x 6 1) x 4
      rw [e]
      exact e4'
theorem g_p12 {p : Int32} (h : p = 1 ∨ p = 2) : ¬ p = 0 ∧ ¬ p = 8 := by rcases h with h | h <;> rw [h] <;> decide
theorem m_recv_mv {ρ : vR} {r x : Nat} (h : v_mid ρ x) (hr : r < 6) (hb : g_bd (v_L ρ x)) (hd : g_dry (v_L ρ x)) (h8 : ¬ 8 < v_L ρ x 6) (h8' : ¬ v_L ρ x 6 = 8) : v_mv ρ (m_receive ρ r x) := by
  obtain ⟨-, h2, h3, h4⟩ := m_recv_st h hr hb hd
  exact v_mv.one (m_recv_n ρ r x) (m_recv_now ρ r x) (m_recv_R ρ r x) h2 (g_mv.of h8 h8' (g_p12 h3).1 (g_p12 h3).2 h4)
/-- a log is stranded -/
theorem m_strand_st {ρ : vR} {x : Nat} (h : v_mid ρ x) (hb : g_bd (v_L ρ x)) (hd : g_dry (v_L ρ x)) : v_inv (m_strand ρ x) ∧ (∀ i, i ≠ x → v_L (m_strand ρ x) i = v_L ρ i) ∧ v_L (m_strand ρ x) x 6 = 3 ∧ v_L (m_strand ρ x) x 4 = v_L ρ x 4 := by
  unfold m_strand
  have e6 : v_L (v_sL (v_sL ρ x 6 3) x 7 5) x 6 = 3 := by rw [v_L_nf (by decide), v_L_eq]
  have e4 : v_L (v_sL (v_sL ρ x 6 3) x 7 5) x 4 = v_L ρ x 4 := by rw [v_L_nf (by decide), v_L_nf (by decide)]
  have hr : g_row (v_L (v_sL (v_sL ρ x 6 3) x 7 5) x) := by
    refine g_row_of hb hd ?_ ?_ ?_ ?_ ?_ ?_
    · rw [v_L_nf (by decide), v_L_nf (by decide)]
    · rw [v_L_nf (by decide), v_L_nf (by decide)]
    · rw [v_L_nf (by decide), v_L_nf (by decide)]
    · rw [e4]
      exact hb.2.2.2
    · rw [v_L_nf (by decide), v_L_nf (by decide)]
    · exact Or.inl ⟨by rw [e6]; decide, 5, by decide, by rw [v_L_eq]; decide⟩
  exact ⟨((h.sL 6 3).sL 7 5).done hr (g_line0 (Or.inr (Or.inl e6))), fun i hi => by rw [v_L_ne hi, v_L_ne hi], e6, e4⟩
theorem m_strand_mv {ρ : vR} {x : Nat} (h : v_mid ρ x) (hb : g_bd (v_L ρ x)) (hd : g_dry (v_L ρ x)) (h8 : ¬ 8 < v_L ρ x 6) (h8' : ¬ v_L ρ x 6 = 8) : v_mv ρ (m_strand ρ x) := by
  obtain ⟨-, h2, h3, h4⟩ := m_strand_st h hb hd
  exact v_mv.one rfl rfl rfl h2 (g_mv.of h8 h8' (by rw [h3]; decide) (by rw [h3]; decide) (by rw [h4]; exact Int32.and_self))
/-- a log comes to the boom -/
theorem m_hold1_st {ρ : vR} {x : Nat} (h : v_mid ρ x) (hb : g_bd (v_L ρ x)) (hd : g_dry (v_L ρ x)) : v_inv (m_hold1 ρ x) ∧ (∀ i, i ≠ x → v_L (m_hold1 ρ x) i = v_L ρ i) ∧ v_L (m_hold1 ρ x) x 6 = 5 ∧ v_L (m_hold1 ρ x) x 4 = v_L ρ x 4 := by
  have e6 : v_L (v_sL (v_sL ρ x 6 5) x 7 (-1)) x 6 = 5 := by rw [v_L_nf (by decide), v_L_eq]
  have e4 : v_L (v_sL (v_sL ρ x 6 5) x 7 (-1)) x 4 = v_L ρ x 4 := by rw [v_L_nf (by decide), v_L_nf (by decide)]
  have hr : g_row (v_L (v_sL (v_sL ρ x 6 5) x 7 (-1)) x) := by
    refine g_row_of hb hd ?_ ?_ ?_ ?_ ?_ ?_
    · rw [v_L_nf (by decide), v_L_nf (by decide)]
    · rw [v_L_nf (by decide), v_L_nf (by decide)]
    · rw [v_L_nf (by decide), v_L_nf (by decide)]
    · rw [e4]
      exact hb.2.2.2
    · rw [v_L_nf (by decide), v_L_nf (by decide)]
    · exact Or.inr (Or.inl ⟨Or.inl e6, v_L_eq⟩)
  exact ⟨((h.sL 6 5).sL 7 (-1)).put hr (g_line5 e6), fun i hi => (v_L_ne hi).trans (v_L_ne hi), e6, e4⟩
theorem m_hold1_mv {ρ : vR} {x : Nat} (h : v_mid ρ x) (hb : g_bd (v_L ρ x)) (hd : g_dry (v_L ρ x)) (h8 : ¬ 8 < v_L ρ x 6) (h8' : ¬ v_L ρ x 6 = 8) : v_mv ρ (m_hold1 ρ x) := by
  obtain ⟨-, h2, h3, h4⟩ := m_hold1_st h hb hd
  exact v_mv.one rfl rfl rfl h2 (g_mv.of h8 h8' (by rw [h3]; decide) (by rw [h3]; decide) (by rw [h4]; exact Int32.and_self))
/-- a log goes to an owner's gap -/
theorem m_gap_st {ρ : vR} {x o : Nat} (h : v_mid ρ x) (ho : o < 4) (hb : g_bd (v_L ρ x)) (hd : g_dry (v_L ρ x)) : v_inv (m_gap ρ x o) ∧ (∀ i, i ≠ x → v_L (m_gap ρ x o) i = v_L ρ i) ∧ v_L (m_gap ρ x o) x 6 = 6 ∧ v_L (m_gap ρ x o) x 4 = v_L ρ x 4 := by
  have e6 : v_L (v_sL (v_sL (v_sL ρ x 6 6) x 7 (-1)) x 9 (nI o)) x 6 = 6 := by rw [v_L_nf (by decide), v_L_nf (by decide), v_L_eq]
  have e4 : v_L (v_sL (v_sL (v_sL ρ x 6 6) x 7 (-1)) x 9 (nI o)) x 4 = v_L ρ x 4 := by rw [v_L_nf (by decide), v_L_nf (by decide), v_L_nf (by decide)]
  have e9 : v_L (v_sL (v_sL (v_sL ρ x 6 6) x 7 (-1)) x 9 (nI o)) x 9 = nI o := v_L_eq
  have hr : g_row (v_L (v_sL (v_sL (v_sL ρ x 6 6) x 7 (-1)) x 9 (nI o)) x) := by
    refine g_row_of hb hd ?_ ?_ ?_ ?_ ?_ ?_
    · rw [v_L_nf (by decide), v_L_nf (by decide), v_L_nf (by decide)]
    · rw [v_L_nf (by decide), v_L_nf (by decide), v_L_nf (by decide)]
    · rw [v_L_nf (by decide), v_L_nf (by decide), v_L_nf (by decide)]
    · rw [e4]
      exact hb.2.2.2
    · rw [v_L_nf (by decide), v_L_nf (by decide), v_L_nf (by decide)]
    · exact Or.inr (Or.inr ⟨Or.inl e6, by rw [v_L_nf (by decide), v_L_eq], o, ho, e9⟩)
  exact ⟨(((h.sL 6 6).sL 7 (-1)).sL 9 (nI o)).put hr (g_line6 e6 e9 ho), fun i hi => (v_L_ne hi).trans ((v_L_ne hi).trans (v_L_ne hi)), e6, e4⟩
theorem m_gap_mv {ρ : vR} {x o : Nat} (h : v_mid ρ x) (ho : o < 4) (hb : g_bd (v_L ρ x)) (hd : g_dry (v_L ρ x)) (h8 : ¬ 8 < v_L ρ x 6) (h8' : ¬ v_L ρ x 6 = 8) : v_mv ρ (m_gap ρ x o) := by
  obtain ⟨-, h2, h3, h4⟩ := m_gap_st h ho hb hd
  exact v_mv.one rfl rfl rfl h2 (g_mv.of h8 h8' (by rw [h3]; decide) (by rw [h3]; decide) (by rw [h4]; exact Int32.and_self))
/-- a log goes to the pool of those that nobody owns -/
theorem m_pool_st {ρ : vR} {x : Nat} (h : v_mid ρ x) (hb : g_bd (v_L ρ x)) (hd : g_dry (v_L ρ x)) : v_inv (m_pool ρ x) ∧ (∀ i, i ≠ x → v_L (m_pool ρ x) i = v_L ρ i) ∧ v_L (m_pool ρ x) x 6 = 7 ∧ v_L (m_pool ρ x) x 4 = v_L ρ x 4 := by
  have e6 : v_L (v_sL (v_sL ρ x 6 7) x 7 (-1)) x 6 = 7 := by rw [v_L_nf (by decide), v_L_eq]
  have e4 : v_L (v_sL (v_sL ρ x 6 7) x 7 (-1)) x 4 = v_L ρ x 4 := by rw [v_L_nf (by decide), v_L_nf (by decide)]
  have hr : g_row (v_L (v_sL (v_sL ρ x 6 7) x 7 (-1)) x) := by
    refine g_row_of hb hd ?_ ?_ ?_ ?_ ?_ ?_
    · rw [v_L_nf (by decide), v_L_nf (by decide)]
    · rw [v_L_nf (by decide), v_L_nf (by decide)]
    · rw [v_L_nf (by decide), v_L_nf (by decide)]
    · rw [e4]
      exact hb.2.2.2
    · rw [v_L_nf (by decide), v_L_nf (by decide)]
    · exact Or.inr (Or.inl ⟨Or.inr (Or.inl e6), v_L_eq⟩)
  exact ⟨((h.sL 6 7).sL 7 (-1)).put hr (g_line7 e6), fun i hi => (v_L_ne hi).trans (v_L_ne hi), e6, e4⟩
theorem m_pool_mv {ρ : vR} {x : Nat} (h : v_mid ρ x) (hb : g_bd (v_L ρ x)) (hd : g_dry (v_L ρ x)) (h8 : ¬ 8 < v_L ρ x 6) (h8' : ¬ v_L ρ x 6 = 8) : v_mv ρ (m_pool ρ x) := by
  obtain ⟨-, h2, h3, h4⟩ := m_pool_st h hb hd
  exact v_mv.one rfl rfl rfl h2 (g_mv.of h8 h8' (by rw [h3]; decide) (by rw [h3]; decide) (by rw [h4]; exact Int32.and_self))
