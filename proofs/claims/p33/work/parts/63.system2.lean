/-! ===== deeds on the system: sort, share, load ===== -/
/-- what a deed on logs leaves as it is -/
def w_sd (ω ω' : wS) : Prop := w_no ω' = w_no ω ∧ w_P ω' = w_P ω ∧ w_nr ω' = w_nr ω ∧ w_F ω' = w_F ω ∧ w_W ω' = w_W ω ∧ w_crew ω' = w_crew ω ∧ ∀ o, w_O ω' o 0 = w_O ω o 0
theorem w_sd.rf {ω : wS} : w_sd ω ω := ⟨rfl, rfl, rfl, rfl, rfl, rfl, fun _ => rfl⟩
theorem w_sd.tr {ω ω' ω'' : wS} (h : w_sd ω ω') (h' : w_sd ω' ω'') : w_sd ω ω'' := by
  obtain ⟨a, b, c, d, e, f, g⟩ := h
  obtain ⟨a', b', c', d', e', f', g'⟩ := h'
  exact ⟨a'.trans a, b'.trans b, c'.trans c, d'.trans d, e'.trans e, f'.trans f, fun o => (g' o).trans (g o)⟩
theorem w_sd.sO {ω : wS} {k f : Nat} {x : Int32} (hf : f ≠ 0) : w_sd ω (w_sO ω k f x) := ⟨rfl, rfl, rfl, rfl, rfl, rfl, fun o => if_neg (fun z => hf z.2.symm)⟩
theorem w_sO_nf {ω : wS} {k f f' o : Nat} {x : Int32} (hf : f' ≠ f) : w_O (w_sO ω k f x) o f' = w_O ω o f' := if_neg (fun z => hf z.2)
/-- the first of a line goes to an owner's gap -/
theorem w_gap_st {ρ : vR} (h : v_inv ρ) {q i o : Nat} {xs : List Nat} (hq : v_Q ρ q = i :: xs) (hq18 : q = 12 ∨ q = 17) (ho : o < 4) : v_inv (m_gap (v_sQ ρ q (m_rm (v_Q ρ q) i)) i o) ∧ v_mv ρ (m_gap (v_sQ ρ q (m_rm (v_Q ρ q) i)) i o) ∧ ∀ q', q' = 12 ∨ q' = 17 → v_Q (m_gap (v_sQ ρ q (m_rm (v_Q ρ q) i)) i o) q' = if q' = q then xs else v_Q ρ q' := by
  have hi : i ∈ v_Q ρ q := by rw [hq]; exact List.mem_cons_self
  have hin : i < v_n ρ ∧ (v_L ρ i 6 = 5 ∨ v_L ρ i 6 = 7) ∧ g_line (v_L ρ i) = some q := by
    rcases hq18 with rfl | rfl
    · exact ⟨(h.on5 hi).1, Or.inl (h.on5 hi).2, g_line5 (h.on5 hi).2⟩
    · exact ⟨(h.on7 hi).1, Or.inr (h.on7 hi).2, g_line7 (h.on7 hi).2⟩
  obtain ⟨hin, h6, hl⟩ := hin
  have hrow := h.2.1 i hin
  have hdry := hrow.dry (by rcases h6 with e | e <;> rw [e] <;> decide)
  have hoff := h.off hin hl
  have n8 : ¬ 8 < v_L (v_sQ ρ q (m_rm (v_Q ρ q) i)) i 6 := by
    show ¬ 8 < v_L ρ i 6
    rcases h6 with e | e <;> rw [e] <;> decide
  have n8' : ¬ v_L (v_sQ ρ q (m_rm (v_Q ρ q) i)) i 6 = 8 := by
    show ¬ v_L ρ i 6 = 8
    rcases h6 with e | e <;> rw [e] <;> decide
  obtain ⟨s1, -, -, -⟩ := m_gap_st hoff ho hrow.1 hdry
  have mv := m_gap_mv hoff ho hrow.1 hdry n8 n8'
  refine ⟨s1, (v_mv.sQ _ _).tr mv, fun q' hq' => ?_⟩
  have hd := h.nodup (q := q) (by omega)
  have hrm : m_rm (v_Q ρ q) i = xs := by
    rw [hq] at hd ⊢
    exact m_rm_mid (ks := []) hd
  show (if q' = 13 + o then _ else v_Q (v_sQ ρ q (m_rm (v_Q ρ q) i)) q') = _
  rw [if_neg (by omega), v_Q_sQ, hrm]
theorem w_pool_st {ρ : vR} (h : v_inv ρ) {i : Nat} {xs : List Nat} (hq : v_Q ρ 12 = i :: xs) : v_inv (m_pool (v_sQ ρ 12 (m_rm (v_Q ρ 12) i)) i) ∧ v_mv ρ (m_pool (v_sQ ρ 12 (m_rm (v_Q ρ 12) i)) i) ∧ v_Q (m_pool (v_sQ ρ 12 (m_rm (v_Q ρ 12) i)) i) 12 = xs ∧ v_Q (m_pool (v_sQ ρ 12 (m_rm (v_Q ρ 12) i)) i) 17 = v_Q ρ 17 ++ [i] := by
  have hi : i ∈ v_Q ρ 12 := by rw [hq]; exact List.mem_cons_self
  obtain ⟨hin, h6⟩ := h.on5 hi
  have hrow := h.2.1 i hin
  have hdry := hrow.dry (by rw [h6]; decide)
  have hoff := h.off hin (g_line5 h6)
  have n8 : ¬ 8 < v_L (v_sQ ρ 12 (m_rm (v_Q ρ 12) i)) i 6 := by
    show ¬ 8 < v_L ρ i 6
    rw [h6]
    decide
  have n8' : ¬ v_L (v_sQ ρ 12 (m_rm (v_Q ρ 12) i)) i 6 = 8 := by
    show ¬ v_L ρ i 6 = 8
    rw [h6]
    decide
  obtain ⟨s1, -, -, -⟩ := m_pool_st hoff hrow.1 hdry
  have mv := m_pool_mv hoff hrow.1 hdry n8 n8'
  have hd := h.nodup (q := 12) (by decide)
  have hrm : m_rm (v_Q ρ 12) i = xs := by
    rw [hq] at hd ⊢
    exact m_rm_mid (ks := []) hd
  have hlen : (v_Q ρ 17).length < 40 := hoff.len (q := 17) (by decide)
  refine ⟨s1, (v_mv.sQ _ _).tr mv, ?_, ?_⟩
  · unfold m_pool
    rw [v_Q_sQ, if_neg (by decide)]
    show v_Q (v_sQ ρ 12 (m_rm (v_Q ρ 12) i)) 12 = _
    rw [v_Q_sQ, if_pos rfl, hrm]
  · show m_app (v_Q ρ 17) i = _
    unfold m_app
    rw [if_pos hlen]
theorem m_sort1_st {ω : wS} (h : v_inv (w_ρ ω)) (hne : 0 < (v_Q (w_ρ ω) 12).length) : v_inv (w_ρ (m_sort1 ω).1) ∧ v_mv (w_ρ ω) (w_ρ (m_sort1 ω).1) ∧ w_sd ω (m_sort1 ω).1 ∧ (∀ o, w_O (m_sort1 ω).1 o 1 = w_O ω o 1) ∧ w_costs (m_sort1 ω).1 = w_costs ω ∧ (v_Q (w_ρ (m_sort1 ω).1) 12).length + 1 = (v_Q (w_ρ ω) 12).length ∧ ∃ k, (m_sort1 ω).2 = nI k ∧ (v_Q (w_ρ (m_sort1 ω).1) 17).length = (v_Q (w_ρ ω) 17).length + k := by
  match hq : v_Q (w_ρ ω) 12 with
  | [] => rw [hq] at hne; exact absurd hne (by simp)
  | i :: xs =>
    by_cases hw : ¬ m_whose ω i < 0 ∧ m_whose ω i < 4
    · obtain ⟨o, ho, eo, ec⟩ := m_small (k := 4) hw (by decide)
      obtain ⟨g1, g2, g3⟩ := w_gap_st h hq (Or.inl rfl) ho
      have e : m_sort1 ω = (m_sgap (w_sV ω (v_sQ (w_ρ ω) 12 (m_rm (v_Q (w_ρ ω) 12) i))) i o, 0) := by
        unfold m_sort1
        rw [hq]
        show (if ¬ m_whose ω i < 0 ∧ m_whose ω i < 4 then _ else _) = _
        rw [if_pos hw, ec]
      rw [e]
      refine ⟨g1, g2, w_sd.sO (ω := ω) (f := 3) (by decide), fun o' => w_sO_nf (ω := ω) (f := 3) (f' := 1) (by decide), rfl, ?_, 0, rfl, ?_⟩
      · show (v_Q (m_gap (v_sQ (w_ρ ω) 12 (m_rm (v_Q (w_ρ ω) 12) i)) i o) 12).length + 1 = _
        rw [g3 12 (Or.inl rfl), if_pos rfl, List.length_cons]
      · show (v_Q (m_gap (v_sQ (w_ρ ω) 12 (m_rm (v_Q (w_ρ ω) 12) i)) i o) 17).length = _
        rw [g3 17 (Or.inr rfl), if_neg (by decide)]
        rfl
    · obtain ⟨g1, g2, g3, g4⟩ := w_pool_st h hq
      have e : m_sort1 ω = (w_sV ω (m_pool (v_sQ (w_ρ ω) 12 (m_rm (v_Q (w_ρ ω) 12) i)) i), 1) := by
        unfold m_sort1
        rw [hq]
        show (if ¬ m_whose ω i < 0 ∧ m_whose ω i < 4 then _ else _) = _
        rw [if_neg hw]
      rw [e]
      refine ⟨g1, g2, ⟨rfl, rfl, rfl, rfl, rfl, rfl, fun _ => rfl⟩, fun o' => rfl, rfl, ?_, 1, rfl, ?_⟩
      · show (v_Q (m_pool (v_sQ (w_ρ ω) 12 (m_rm (v_Q (w_ρ ω) 12) i)) i) 12).length + 1 = _
        rw [g3, List.length_cons]
      · show (v_Q (m_pool (v_sQ (w_ρ ω) 12 (m_rm (v_Q (w_ρ ω) 12) i)) i) 17).length = _
        rw [g4, List.length_append]
        rfl
theorem m_sorts_st : ∀ (m : Nat) (ω : wS) (c : Nat), v_inv (w_ρ ω) → m ≤ (v_Q (w_ρ ω) 12).length → v_inv (w_ρ (m_sorts m ω (nI c)).1) ∧ v_mv (w_ρ ω) (w_ρ (m_sorts m ω (nI c)).1) ∧ w_sd ω (m_sorts m ω (nI c)).1 ∧ (∀ o, w_O (m_sorts m ω (nI c)).1 o 1 = w_O ω o 1) ∧ w_costs (m_sorts m ω (nI c)).1 = w_costs ω ∧ (v_Q (w_ρ (m_sorts m ω (nI c)).1) 12).length + m = (v_Q (w_ρ ω) 12).length ∧ ∃ k, (m_sorts m ω (nI c)).2 = nI (c + k) ∧ (v_Q (w_ρ (m_sorts m ω (nI c)).1) 17).length = (v_Q (w_ρ ω) 17).length + k := by
  intro m
  induction m with
  | zero => exact fun ω c h _ => ⟨h, v_mv.rf, w_sd.rf, fun _ => rfl, rfl, rfl, 0, rfl, rfl⟩
  | succ m ih =>
    intro ω c h hm
    obtain ⟨a1, a2, a3, a4, a5, a6, k, a7, a8⟩ := m_sort1_st h (by omega)
    have e : m_sorts (m + 1) ω (nI c) = m_sorts m (m_sort1 ω).1 (nI (c + k)) := by
      show m_sorts m (m_sort1 ω).1 (nI c + (m_sort1 ω).2) = _
      rw [a7, nI_add]
    rw [e]
    obtain ⟨b1, b2, b3, b4, b5, b6, k2, b7, b8⟩ := ih (m_sort1 ω).1 (c + k) a1 (by omega)
    exact ⟨b1, a2.tr b2, a3.tr b3, fun o => (b4 o).trans (a4 o), b5.trans a5, by omega, k + k2, by rw [b7, Nat.add_assoc], by omega⟩
theorem m_sort_st {ω : wS} (h : v_inv (w_ρ ω)) (m : Nat) : v_inv (w_ρ (m_sort ω m).1) ∧ v_mv (w_ρ ω) (w_ρ (m_sort ω m).1) ∧ w_sd ω (m_sort ω m).1 ∧ (∀ o, w_O (m_sort ω m).1 o 1 = w_O ω o 1) ∧ w_costs (m_sort ω m).1 = w_costs ω + nI (min m (v_Q (w_ρ ω) 12).length) ∧ (v_Q (w_ρ (m_sort ω m).1) 12).length + min m (v_Q (w_ρ ω) 12).length = (v_Q (w_ρ ω) 12).length ∧ ∃ k, (m_sort ω m).2 = nI k ∧ (v_Q (w_ρ (m_sort ω m).1) 17).length = (v_Q (w_ρ ω) 17).length + k := by
  obtain ⟨b1, b2, b3, b4, b5, b6, k, b7, b8⟩ := m_sorts_st (min m (v_Q (w_ρ ω) 12).length) ω 0 h (by omega)
  rw [Nat.zero_add] at b7
  refine ⟨b1, b2, b3, b4, ?_, b6, k, b7, b8⟩
  show w_costs (m_sorts (min m (v_Q (w_ρ ω) 12).length) ω (nI 0)).1 + _ = _
  rw [b5]
/-- sharing the pool -/
theorem m_shr1_st {ω : wS} (h : v_inv (w_ρ ω)) (hne : 0 < (v_Q (w_ρ ω) 17).length) : v_inv (w_ρ (m_shr1 ω)) ∧ v_mv (w_ρ ω) (w_ρ (m_shr1 ω)) ∧ w_sd ω (m_shr1 ω) ∧ (∀ o, w_O (m_shr1 ω) o 1 = w_O ω o 1) ∧ w_costs (m_shr1 ω) = w_costs ω ∧ (v_Q (w_ρ (m_shr1 ω)) 17).length + 1 = (v_Q (w_ρ ω) 17).length := by
  match hq : v_Q (w_ρ ω) 17 with
  | [] => rw [hq] at hne; exact absurd hne (by simp)
  | i :: xs =>
    have ho := m_best_lt (w_O ω) 3 1 0 (by decide) (by decide)
    obtain ⟨g1, g2, g3⟩ := w_gap_st h hq (Or.inr rfl) ho
    have e : m_shr1 ω = w_sV (w_sO ω (m_best (w_O ω) 3 1 0) 2 (w_O ω (m_best (w_O ω) 3 1 0) 2 + 1)) (m_gap (v_sQ (w_ρ ω) 17 (m_rm (v_Q (w_ρ ω) 17) i)) i (m_best (w_O ω) 3 1 0)) := by
      unfold m_shr1
      rw [hq]
    rw [e]
    refine ⟨g1, g2, w_sd.sO (ω := ω) (f := 2) (by decide), fun o' => w_sO_nf (ω := ω) (f := 2) (f' := 1) (by decide), rfl, ?_⟩
    show (v_Q (m_gap (v_sQ (w_ρ ω) 17 (m_rm (v_Q (w_ρ ω) 17) i)) i (m_best (w_O ω) 3 1 0)) 17).length + 1 = _
    rw [g3 17 (Or.inr rfl), if_pos rfl, List.length_cons]
theorem m_shares_st : ∀ (m : Nat) (ω : wS), v_inv (w_ρ ω) → m ≤ (v_Q (w_ρ ω) 17).length → v_inv (w_ρ (m_shares m ω)) ∧ v_mv (w_ρ ω) (w_ρ (m_shares m ω)) ∧ w_sd ω (m_shares m ω) ∧ (∀ o, w_O (m_shares m ω) o 1 = w_O ω o 1) ∧ w_costs (m_shares m ω) = w_costs ω ∧ (v_Q (w_ρ (m_shares m ω)) 17).length + m = (v_Q (w_ρ ω) 17).length := by
  intro m
  induction m with
  | zero => exact fun ω h _ => ⟨h, v_mv.rf, w_sd.rf, fun _ => rfl, rfl, rfl⟩
  | succ m ih =>
    intro ω h hm
    obtain ⟨a1, a2, a3, a4, a5, a6⟩ := m_shr1_st h (by omega)
    obtain ⟨b1, b2, b3, b4, b5, b6⟩ := ih (m_shr1 ω) a1 (by omega)
    exact ⟨b1, a2.tr b2, a3.tr b3, fun o => (b4 o).trans (a4 o), b5.trans a5, by show (v_Q (w_ρ (m_shares m (m_shr1 ω))) 17).length + (m + 1) = _; omega⟩
