/-! ===== what always holds of a system, and that it answers the law's question ===== -/
/-- water and gates -/
def v_wat (ρ : vR) (M : Nat) : Prop := (∃ W : Nat → Nat, (∀ r, r < 6 → v_R ρ r 1 = nI (W r)) ∧ W 0 + W 1 + W 2 + W 3 + W 4 + W 5 ≤ M) ∧ ∀ r, r < 6 → (¬ v_R ρ r 2 < 0 ∧ v_R ρ r 2 < 4) ∧ ¬ v_R ρ r 4 < 0 ∧ v_R ρ r 4 < 31
/-- the rafts: each under way carries a log, each log afloat is on one that is under way -/
def w_rft (ω : wS) : Prop := (∀ i, i < v_n (w_ρ ω) → v_L (w_ρ ω) i 6 = 8 → ∃ j, j < w_nr ω ∧ v_L (w_ρ ω) i 10 = nI j ∧ v_now (w_ρ ω) < w_F ω j 2) ∧ ∀ j, j < w_nr ω → v_now (w_ρ ω) < w_F ω j 2 → ∃ i, i < v_n (w_ρ ω) ∧ v_L (w_ρ ω) i 6 = 8 ∧ v_L (w_ρ ω) i 10 = nI j
def w_bas (ω : wS) (t M : Nat) : Prop := v_inv (w_ρ ω) ∧ v_wat (w_ρ ω) M ∧ w_rft ω ∧ w_nr ω ≤ t ∧ M < 100000 ∧ t < 100
theorem g_pl11 {F : Nat → Int32} (h : g_pl F) : ∃ pl, pl < 11 ∧ F 6 = nI pl ∧ ((pl < 5 ∧ ∃ r, r < 6 ∧ F 7 = nI r) ∨ (¬ pl < 5 ∧ F 7 = -1)) := by
  rcases h with ⟨h6, h7⟩ | ⟨h6, h7⟩ | ⟨h6, h7, -⟩
  · rcases h6 with e | e | e | e | e
    · exact ⟨0, by decide, e, Or.inl ⟨by decide, h7⟩⟩
    · exact ⟨1, by decide, e, Or.inl ⟨by decide, h7⟩⟩
    · exact ⟨2, by decide, e, Or.inl ⟨by decide, h7⟩⟩
    · exact ⟨3, by decide, e, Or.inl ⟨by decide, h7⟩⟩
    · exact ⟨4, by decide, e, Or.inl ⟨by decide, h7⟩⟩
  · rcases h6 with e | e | e
    · exact ⟨5, by decide, e, Or.inr ⟨by decide, h7⟩⟩
    · exact ⟨7, by decide, e, Or.inr ⟨by decide, h7⟩⟩
    · exact ⟨10, by decide, e, Or.inr ⟨by decide, h7⟩⟩
  · rcases h6 with e | e | e
    · exact ⟨6, by decide, e, Or.inr ⟨by decide, h7⟩⟩
    · exact ⟨8, by decide, e, Or.inr ⟨by decide, h7⟩⟩
    · exact ⟨9, by decide, e, Or.inr ⟨by decide, h7⟩⟩
theorem g_own {F : Nat → Int32} (h : g_pl F) (h6 : F 6 = 6 ∨ F 6 = 8 ∨ F 6 = 9) : ∃ o, o < 4 ∧ F 9 = nI o := by
  rcases h with ⟨z, -⟩ | ⟨z, -⟩ | ⟨-, -, h9⟩
  · rcases h6 with e | e | e <;> exact absurd z (by rw [e]; decide)
  · rcases h6 with e | e | e <;> exact absurd z (by rw [e]; decide)
  · exact h9
theorem g_in {x : Int32} {a b : Nat} (h : nI a ≤ x ∧ x < nI b) (ha : a < 1000) (hb : b < 1000) : ∃ k, a ≤ k ∧ k < b ∧ x = nI k := by
  have h0 : ¬ x < 0 := fun z => by
    have z2 : nI a < 0 := Int32.lt_of_le_of_lt h.1 z
    exact nI_pos (by omega) z2
  obtain ⟨k, hk, rfl, -⟩ := m_small (k := b) ⟨h0, h.2⟩ (by omega)
  refine ⟨k, ?_, hk, rfl⟩
  have h1 := h.1
  have := (nI_leI (a := a) (b := k) (by omega) (by omega)).mp h1
  exact this
theorem g_sc2 : ∀ l : Nat, l < 10 → ∀ g : Nat, g < 10 → 3 ≤ l → 1 ≤ g → nI l * (if nI g - 2 < 0 then 0 else nI g - 2) ≤ nI l * nI g ∧ nI l * (if nI g - 2 < 0 then 0 else nI g - 2) / 2 ≤ nI l * nI g := by decide +kernel
theorem g_sc {l g s : Int32} (hl : 3 ≤ l ∧ l < 10) (hg : 1 ≤ g ∧ g < 10) : m_sc l g s 2 ≤ m_sc l g s 0 := by
  obtain ⟨l', h1, h2, rfl⟩ := g_in (a := 3) (b := 10) hl (by decide) (by decide)
  obtain ⟨g', h3, h4, rfl⟩ := g_in (a := 1) (b := 10) hg (by decide) (by decide)
  obtain ⟨a, b⟩ := g_sc2 l' h2 g' h4 h1 h3
  unfold m_sc
  rw [if_neg (by decide), if_neg (by decide), if_pos rfl]
  by_cases hs : s < 10
  · rw [if_pos hs]
    exact a
  · rw [if_neg hs]
    exact b
theorem w_so_L {ω : wS} (h : v_inv (w_ρ ω)) : m_soL ω := by
  intro i hi
  obtain ⟨hb, hw, hp⟩ := h.2.1 i hi
  refine ⟨g_pl11 hp, hw.1, ?_, g_sc hb.2.1 hb.2.2.1⟩
  obtain ⟨k, hk, e, -⟩ := m_small (k := 25) ⟨hw.1, hw.2.1⟩ (by decide)
  rw [e]
  exact nI_le (a := k) (b := 24) (by omega) (by decide)
theorem w_so_R {ω : wS} {M : Nat} (h : v_inv (w_ρ ω)) (hw : v_wat (w_ρ ω) M) (hM : M < 100000) : m_soR ω := by
  intro r hr
  obtain ⟨⟨W, hW, hs⟩, hg⟩ := hw
  have hWr : W r < 2 ^ 31 := by
    have : W r ≤ M := by
      match r, hr with
      | 0, _ => omega
      | 1, _ => omega
      | 2, _ => omega
      | 3, _ => omega
      | 4, _ => omega
      | 5, _ => omega
      | n + 6, z => omega
    omega
  refine ⟨?_, (hg r hr).2.1, ?_, ?_, ?_, fun i hi => h.on1 hr hi, fun i hi => h.on2 hr hi⟩
  · rw [hW r hr]
    exact nI_pos hWr
  · obtain ⟨k, hk, e, -⟩ := m_small (k := 31) (hg r hr).2 (by decide)
    rw [e]
    exact nI_le (a := k) (b := 30) (by omega) (by decide)
  · refine v_len _ _ _ (h.nodup (by omega)) (fun i => ⟨fun z => h.on1 hr z, fun z => ((h.2.2 r (by omega)).2 i).mpr ⟨z.1, Nat.ne_of_lt z.1, g_line1 z.2.1 z.2.2 hr⟩⟩)
  · refine v_len _ _ _ (h.nodup (by omega)) (fun i => ⟨fun z => h.on2 hr z, fun z => ((h.2.2 (6 + r) (by omega)).2 i).mpr ⟨z.1, Nat.ne_of_lt z.1, g_line2 z.2.1 z.2.2 hr⟩⟩)
theorem w_len6 {ρ : vR} (h : v_inv ρ) {o : Nat} (ho : o < 4) : (v_Q ρ (13 + o)).length = m_ct (fun i => v_L ρ i 6 = 6 ∧ v_L ρ i 9 = nI o) (v_n ρ) := v_len _ _ _ (h.nodup (by omega)) (fun i => ⟨fun z => h.on6 ho z, fun z => ((h.2.2 (13 + o) (by omega)).2 i).mpr ⟨z.1, Nat.ne_of_lt z.1, g_line6 z.2.1 z.2.2 ho⟩⟩)
theorem w_len5 {ρ : vR} (h : v_inv ρ) : (v_Q ρ 12).length = m_ct (fun i => v_L ρ i 6 = nI 5) (v_n ρ) := v_len _ _ _ (h.nodup (by decide)) (fun i => ⟨fun z => h.on5 z, fun z => ((h.2.2 12 (by decide)).2 i).mpr ⟨z.1, Nat.ne_of_lt z.1, g_line5 z.2⟩⟩)
theorem w_len7 {ρ : vR} (h : v_inv ρ) : (v_Q ρ 17).length = m_ct (fun i => v_L ρ i 6 = nI 7) (v_n ρ) := v_len _ _ _ (h.nodup (by decide)) (fun i => ⟨fun z => h.on7 z, fun z => ((h.2.2 17 (by decide)).2 i).mpr ⟨z.1, Nat.ne_of_lt z.1, g_line7 z.2⟩⟩)
/-- four owners share a place -/
theorem w_four (L : Nat → Nat → Int32) (p : Int32) : ∀ n, (∀ i, i < n → L i 6 = p → ∃ o, o < 4 ∧ L i 9 = nI o) → m_ct (fun i => L i 6 = p ∧ L i 9 = nI 0) n + m_ct (fun i => L i 6 = p ∧ L i 9 = nI 1) n + m_ct (fun i => L i 6 = p ∧ L i 9 = nI 2) n + m_ct (fun i => L i 6 = p ∧ L i 9 = nI 3) n = m_ct (fun i => L i 6 = p) n := by
  intro n
  induction n with
  | zero => exact fun _ => rfl
  | succ n ih =>
    intro h
    have ih' := ih (fun i hi => h i (by omega))
    rw [m_ct_s, m_ct_s, m_ct_s, m_ct_s, m_ct_s]
    by_cases hp : L n 6 = p
    · obtain ⟨o, ho, e⟩ := h n (by omega) hp
      have d : ∀ a b : Nat, a < 4 → b < 4 → (nI a = nI b ↔ a = b) := fun a b ha hb => nI_eq (by omega) (by omega)
      simp only [hp, e, true_and, if_true]
      simp only [d o 0 ho (by decide), d o 1 ho (by decide), d o 2 ho (by decide), d o 3 ho (by decide)]
      match o, ho with
      | 0, _ => simp; omega
      | 1, _ => simp; omega
      | 2, _ => simp; omega
      | 3, _ => simp; omega
      | k + 4, z => omega
    · simp only [hp, false_and, if_false]
      omega
theorem w_so_O {ω : wS} (h : v_inv (w_ρ ω)) : m_soO ω := by
  refine ⟨fun o ho i hi => ⟨(h.on6 ho hi).1, (h.on6 ho hi).2.1⟩, ?_, ?_, ?_⟩
  · have e := w_four (v_L (w_ρ ω)) 6 (v_n (w_ρ ω)) (fun i hi h6 => g_own (h.2.1 i hi).2.2 (Or.inl h6))
    have e2 : m_gsum ω 4 = (((0 : Int32) + nI (v_Q (w_ρ ω) (13 + 0)).length) + nI (v_Q (w_ρ ω) (13 + 1)).length) + nI (v_Q (w_ρ ω) (13 + 2)).length + nI (v_Q (w_ρ ω) (13 + 3)).length := rfl
    rw [e2, w_len6 h (by decide), w_len6 h (by decide), w_len6 h (by decide), w_len6 h (by decide), Int32.zero_add, nI_add, nI_add, nI_add, e]
    rfl
  · have e := w_four (v_L (w_ρ ω)) 8 (v_n (w_ρ ω)) (fun i hi h6 => g_own (h.2.1 i hi).2.2 (Or.inr (Or.inl h6)))
    have c : ∀ k, m_held ω (nI k) 8 = nI (m_ct (fun i => v_L (w_ρ ω) i 6 = 8 ∧ v_L (w_ρ ω) i 9 = nI k) (v_n (w_ρ ω))) := fun k => m_fold_ct0 _ _ (fun i c => rfl) _
    have e2 : m_hsum ω 8 4 = (((0 : Int32) + m_held ω (nI 0) 8) + m_held ω (nI 1) 8) + m_held ω (nI 2) 8 + m_held ω (nI 3) 8 := rfl
    rw [e2, c, c, c, c, Int32.zero_add, nI_add, nI_add, nI_add, e]
    rfl
  · have e := w_four (v_L (w_ρ ω)) 9 (v_n (w_ρ ω)) (fun i hi h6 => g_own (h.2.1 i hi).2.2 (Or.inr (Or.inr h6)))
    have c : ∀ k, m_held ω (nI k) 9 = nI (m_ct (fun i => v_L (w_ρ ω) i 6 = 9 ∧ v_L (w_ρ ω) i 9 = nI k) (v_n (w_ρ ω))) := fun k => m_fold_ct0 _ _ (fun i c => rfl) _
    have e2 : m_hsum ω 9 4 = (((0 : Int32) + m_held ω (nI 0) 9) + m_held ω (nI 1) 9) + m_held ω (nI 2) 9 + m_held ω (nI 3) 9 := rfl
    rw [e2, c, c, c, c, Int32.zero_add, nI_add, nI_add, nI_add, e]
    rfl
/-- whose a log is -/
theorem m_whl_in (s : Int32) (O : Nat → Nat → Int32) : ∀ (m k : Nat) (f : Int32), k + m ≤ 4 → (f = -1 ∨ ∃ o, o < 4 ∧ f = nI o) → (m_whl s O m k f = -1 ∨ ∃ o, o < 4 ∧ m_whl s O m k f = nI o) := by
  intro m
  induction m with
  | zero => exact fun k f _ h => h
  | succ m ih =>
    intro k f hk h
    unfold m_whl
    split
    · split
      · exact ih (k + 1) (nI k) (by omega) (Or.inr ⟨k, by omega, rfl⟩)
      · exact Or.inl rfl
    · exact ih (k + 1) f (by omega) h
theorem m_whose_in (ω : wS) (i : Nat) : m_whose ω i = -1 ∨ ∃ o, o < 4 ∧ m_whose ω i = nI o := by
  unfold m_whose m_wh
  split
  · exact Or.inl rfl
  · exact m_whl_in _ _ 4 0 _ (by decide) (Or.inl rfl)
theorem m_whose_neg (ω : wS) (i : Nat) : m_whose ω i = -1 ↔ m_whose ω i < 0 := by
  constructor
  · intro e
    rw [e]
    decide
  · intro hl
    rcases m_whose_in ω i with e | ⟨o, ho, e⟩
    · exact e
    · rw [e] at hl
      exact absurd hl (nI_pos (by omega))
theorem m_fold_cg {g g' : Nat → Int32 → Int32} : ∀ (m k : Nat) (c : Int32), (∀ i c, k ≤ i → i < k + m → g i c = g' i c) → m_fold g m k c = m_fold g' m k c := by
  intro m
  induction m with
  | zero => exact fun _ _ _ => rfl
  | succ m ih =>
    intro k c h
    show m_fold g m (k + 1) (g k c) = m_fold g' m (k + 1) (g' k c)
    rw [h k c (by omega) (by omega)]
    exact ih (k + 1) _ (fun i c h1 h2 => h i c (by omega) (by omega))
theorem w_none (ω : wS) : m_none ω = m_fold (m_nob ω) (v_n (w_ρ ω)) 0 0 := by
  unfold m_none
  refine m_fold_cg _ _ _ (fun i c _ _ => ?_)
  show (if m_whose ω i = -1 then c + 1 else c) = c + (if m_whose ω i < 0 then 1 else 0)
  by_cases h : m_whose ω i < 0
  · rw [if_pos h, if_pos ((m_whose_neg ω i).mpr h)]
  · rw [if_neg h, if_neg (fun z => h ((m_whose_neg ω i).mp z)), Int32.add_zero]
theorem m_rfl_fold (ω : wS) : ∀ (m k : Nat) (c : Int32), m_rfl ω m k c = m_fold (fun k c => if v_now (w_ρ ω) < w_F ω k 2 then c + 1 else c) m k c := by
  intro m
  induction m with
  | zero => exact fun _ _ => rfl
  | succ m ih => exact fun k c => ih (k + 1) _
theorem m_ct_pos (P : Nat → Prop) [DecidablePred P] : ∀ n, 0 < m_ct P n ↔ ∃ i, i < n ∧ P i := by
  intro n
  induction n with
  | zero => exact ⟨fun z => absurd z (Nat.lt_irrefl 0), fun ⟨i, hi, _⟩ => absurd hi (Nat.not_lt_zero _)⟩
  | succ n ih =>
    rw [m_ct_s]
    by_cases hp : P n
    · rw [if_pos hp]
      exact ⟨fun _ => ⟨n, by omega, hp⟩, fun _ => by omega⟩
    · rw [if_neg hp]
      constructor
      · intro z
        obtain ⟨i, hi, h⟩ := ih.mp z
        exact ⟨i, by omega, h⟩
      · rintro ⟨i, hi, h⟩
        have : i ≠ n := fun e => hp (e ▸ h)
        exact ih.mpr ⟨i, by omega, h⟩
theorem nI_0lt {a : Nat} (ha : a < 2 ^ 31) : 0 < nI a ↔ 0 < a := nI_ltI (a := 0) (b := a) (by decide) ha
theorem w_rfl {ω : wS} {t : Nat} (hn : v_n (w_ρ ω) ≤ 40) (h : w_rft ω) (ht : w_nr ω ≤ t) (h100 : t < 100) : 0 < m_rfl ω (w_nr ω) 0 0 ↔ 0 < nI (m_cP ω 8 (v_n (w_ρ ω))) := by
  have e : m_rfl ω (w_nr ω) 0 0 = nI (m_ct (fun j => v_now (w_ρ ω) < w_F ω j 2) (w_nr ω)) := (m_rfl_fold ω _ _ _).trans (m_fold_ct0 _ _ (fun i c => rfl) _)
  have l1 := m_ct_le (fun j => v_now (w_ρ ω) < w_F ω j 2) (w_nr ω)
  have l2 : m_cP ω 8 (v_n (w_ρ ω)) ≤ v_n (w_ρ ω) := m_ct_le _ _
  rw [e, nI_0lt (by omega), nI_0lt (by omega), m_ct_pos, m_ct_pos]
  constructor
  · rintro ⟨j, hj, hd⟩
    obtain ⟨i, hi, h6, -⟩ := h.2 j hj hd
    exact ⟨i, hi, h6⟩
  · rintro ⟨i, hi, h6⟩
    obtain ⟨j, hj, -, hd⟩ := h.1 i hi h6
    exact ⟨j, hj, hd⟩
/-- the soaked, and how many are counted -/
theorem w_ms {ω : wS} (h : v_inv (w_ρ ω)) : ∀ (m k s : Nat), k + m ≤ v_n (w_ρ ω) → ∃ s', s' ≤ s + 24 * (m_ct (fun i => ¬ (v_L (w_ρ ω) i 6 = 10 ∨ v_L (w_ρ ω) i 6 = 9)) (k + m) - m_ct (fun i => ¬ (v_L (w_ρ ω) i 6 = 10 ∨ v_L (w_ρ ω) i 6 = 9)) k) ∧ m_ct (fun i => ¬ (v_L (w_ρ ω) i 6 = 10 ∨ v_L (w_ρ ω) i 6 = 9)) k ≤ m_ct (fun i => ¬ (v_L (w_ρ ω) i 6 = 10 ∨ v_L (w_ρ ω) i 6 = 9)) (k + m) ∧ m_msL (w_ρ ω) m k (nI s) (nI (m_ct (fun i => ¬ (v_L (w_ρ ω) i 6 = 10 ∨ v_L (w_ρ ω) i 6 = 9)) k)) = (nI s', nI (m_ct (fun i => ¬ (v_L (w_ρ ω) i 6 = 10 ∨ v_L (w_ρ ω) i 6 = 9)) (k + m))) ∧ m_fold (m_lsk ω) m k (nI s) = nI s' := by
  intro m
  induction m with
  | zero => exact fun k s _ => ⟨s, by omega, Nat.le_refl _, rfl, rfl⟩
  | succ m ih =>
    intro k s hk
    have hrow := h.2.1 k (by omega)
    obtain ⟨pl, hpl, e6, -⟩ := g_pl11 hrow.2.2
    have hs := m_ct_s (fun i => ¬ (v_L (w_ρ ω) i 6 = 10 ∨ v_L (w_ρ ω) i 6 = 9)) k
    have hk1 : k + (m + 1) = k + 1 + m := by omega
    rw [hk1]
    by_cases hp : v_L (w_ρ ω) k 6 = 10 ∨ v_L (w_ρ ω) k 6 = 9
    · rw [if_neg (fun z => z hp)] at hs
      obtain ⟨s', a, b, c, d⟩ := ih (k + 1) s (by omega)
      rw [hs] at a b c
      refine ⟨s', by omega, by omega, ?_, ?_⟩
      · show (if v_L (w_ρ ω) k 6 = 10 ∨ v_L (w_ρ ω) k 6 = 9 then _ else _) = _
        rw [if_pos hp]
        exact c
      · show m_fold (m_lsk ω) m (k + 1) (m_lsk ω k (nI s)) = _
        have : m_lsk ω k (nI s) = nI s := by
          unfold m_lsk
          rw [if_neg (by rcases hp with e | e <;> rw [e] <;> decide), Int32.add_zero]
        rw [this]
        exact d
    · rw [if_pos hp] at hs
      obtain ⟨q, hq, eq, -⟩ := m_small (k := 25) ⟨hrow.2.1.1, hrow.2.1.2.1⟩ (by decide)
      obtain ⟨s', a, b, c, d⟩ := ih (k + 1) (s + q) (by omega)
      rw [hs] at a b c
      have hlt : v_L (w_ρ ω) k 6 < 9 := by
        rw [e6]
        refine nI_lt (a := pl) (b := 9) ?_ (by decide)
        have h10 : pl ≠ 10 := fun e => hp (Or.inl (by rw [e6, e]; decide))
        have h9 : pl ≠ 9 := fun e => hp (Or.inr (by rw [e6, e]; decide))
        omega
      refine ⟨s', by omega, by omega, ?_, ?_⟩
      · show (if v_L (w_ρ ω) k 6 = 10 ∨ v_L (w_ρ ω) k 6 = 9 then _ else m_msL (w_ρ ω) m (k + 1) (nI s + v_L (w_ρ ω) k 5) (nI _ + 1)) = _
        rw [if_neg hp, eq, nI_add, nI_1]
        exact c
      · show m_fold (m_lsk ω) m (k + 1) (m_lsk ω k (nI s)) = _
        have : m_lsk ω k (nI s) = nI (s + q) := by
          unfold m_lsk
          rw [if_pos hlt, eq, nI_add]
        rw [this]
        exact d
theorem w_ct910 (L : Nat → Nat → Int32) : ∀ n, m_ct (fun i => ¬ (L i 6 = 10 ∨ L i 6 = 9)) n + m_ct (fun i => L i 6 = nI 9) n + m_ct (fun i => L i 6 = nI 10) n = n := by
  intro n
  induction n with
  | zero => rfl
  | succ n ih =>
    rw [m_ct_s, m_ct_s, m_ct_s]
    by_cases h9 : L n 6 = 9
    · have e : L n 6 = nI 9 := h9
      have e' : ¬ L n 6 = nI 10 := by rw [h9]; decide
      rw [if_neg (fun z => z (Or.inr h9)), if_pos e, if_neg e']
      omega
    · have e : ¬ L n 6 = nI 9 := h9
      by_cases h10 : L n 6 = 10
      · have e' : L n 6 = nI 10 := h10
        rw [if_neg (fun z => z (Or.inl h10)), if_neg e, if_pos e']
        omega
      · have e' : ¬ L n 6 = nI 10 := h10
        rw [if_pos (fun z => z.elim h10 h9), if_neg e, if_neg e']
        omega
theorem w_so_E {ω : wS} {t M : Nat} (h : w_bas ω t M) : m_soE ω := by
  obtain ⟨hi, hw, hr, ht, hM, h100⟩ := h
  obtain ⟨s', a, b, c, d⟩ := w_ms hi (v_n (w_ρ ω)) 0 0 (by omega)
  rw [Nat.zero_add (v_n (w_ρ ω))] at a b c
  have e0 : m_ms (w_ρ ω) = m_msL (w_ρ ω) (v_n (w_ρ ω)) 0 (nI 0) (nI (m_ct (fun i => ¬ (v_L (w_ρ ω) i 6 = 10 ∨ v_L (w_ρ ω) i 6 = 9)) 0)) := rfl
  rw [← e0] at c
  have hle := m_ct_le (fun i => ¬ (v_L (w_ρ ω) i 6 = 10 ∨ v_L (w_ρ ω) i 6 = 9)) (v_n (w_ρ ω))
  have h40 := hi.1
  have hz : m_ct (fun i => ¬ (v_L (w_ρ ω) i 6 = 10 ∨ v_L (w_ρ ω) i 6 = 9)) 0 = 0 := rfl
  refine ⟨w_len5 hi, w_none ω, w_rfl hi.1 hr ht h100, ?_, ?_, ?_⟩
  · rw [c]
    exact d.symm
  · rw [c]
    have hc := w_ct910 (v_L (w_ρ ω)) (v_n (w_ρ ω))
    show nI _ = _
    have e : nI (v_n (w_ρ ω)) = nI (m_ct (fun i => ¬ (v_L (w_ρ ω) i 6 = 10 ∨ v_L (w_ρ ω) i 6 = 9)) (v_n (w_ρ ω))) + nI (m_ct (fun i => v_L (w_ρ ω) i 6 = nI 10) (v_n (w_ρ ω))) + nI (m_ct (fun i => v_L (w_ρ ω) i 6 = nI 9) (v_n (w_ρ ω))) := by
      rw [nI_add, nI_add]
      congr 1
      omega
    rw [e, Int32.add_sub_cancel, Int32.add_sub_cancel]
  · rw [c]
    exact g_dOk _ _ (by omega) (by omega)
theorem w_so {ω : wS} {t M : Nat} (h : w_bas ω t M) : m_so ω := ⟨w_so_L h.1, w_so_R h.1 h.2.1 h.2.2.2.2.1, w_so_O h.1, w_so_E h⟩
