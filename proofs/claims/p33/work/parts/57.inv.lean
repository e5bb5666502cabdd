/-! ===== what always holds of a river: each log's row, and each line ===== -/
def g_pl (F : Nat → Int32) : Prop := ((F 6 = 0 ∨ F 6 = 1 ∨ F 6 = 2 ∨ F 6 = 3 ∨ F 6 = 4) ∧ ∃ r, r < 6 ∧ F 7 = nI r) ∨ ((F 6 = 5 ∨ F 6 = 7 ∨ F 6 = 10) ∧ F 7 = -1) ∨ ((F 6 = 6 ∨ F 6 = 8 ∨ F 6 = 9) ∧ F 7 = -1 ∧ ∃ o, o < 4 ∧ F 9 = nI o)
def g_bd (F : Nat → Int32) : Prop := (¬ F 1 < 0 ∧ F 1 < 3) ∧ (3 ≤ F 2 ∧ F 2 < 10) ∧ (1 ≤ F 3 ∧ F 3 < 10) ∧ ¬ F 4 < 0 ∧ F 4 < 64
def g_wt (F : Nat → Int32) : Prop := ¬ F 5 < 0 ∧ F 5 < 25 ∧ (F 6 = 4 ∨ F 5 < m_lim (F 1))
def g_row (F : Nat → Int32) : Prop := g_bd F ∧ g_wt F ∧ g_pl F
def g_line (F : Nat → Int32) : Option Nat :=
  if F 6 = 1 then (if ¬ F 7 < 0 ∧ F 7 < 6 then some (F 7).toNatClampNeg else none)
  else if F 6 = 2 then (if ¬ F 7 < 0 ∧ F 7 < 6 then some (6 + (F 7).toNatClampNeg) else none)
  else if F 6 = 5 then some 12
  else if F 6 = 6 then (if ¬ F 9 < 0 ∧ F 9 < 4 then some (13 + (F 9).toNatClampNeg) else none)
  else if F 6 = 7 then some 17 else none
theorem m_line_g (ρ : vR) (i : Nat) : m_lineOf ρ i = g_line (v_L ρ i) := (rfl)
theorem g_line1 {F : Nat → Int32} {r : Nat} (h : F 6 = 1) (h7 : F 7 = nI r) (hr : r < 6) : g_line F = some r := by
  have a : ¬ nI r < 0 ∧ nI r < 6 := ⟨nI_pos (by omega), nI_lt (b := 6) hr (by decide)⟩
  unfold g_line
  rw [if_pos h, h7, if_pos a, nI_clamp (by omega)]
theorem g_line2 {F : Nat → Int32} {r : Nat} (h : F 6 = 2) (h7 : F 7 = nI r) (hr : r < 6) : g_line F = some (6 + r) := by
  have a : ¬ nI r < 0 ∧ nI r < 6 := ⟨nI_pos (by omega), nI_lt (b := 6) hr (by decide)⟩
  unfold g_line
  rw [if_neg (by rw [h]; decide), if_pos h, h7, if_pos a, nI_clamp (by omega)]
theorem g_line5 {F : Nat → Int32} (h : F 6 = 5) : g_line F = some 12 := by
  unfold g_line
  rw [if_neg (by rw [h]; decide), if_neg (by rw [h]; decide), if_pos h]
theorem g_line6 {F : Nat → Int32} {o : Nat} (h : F 6 = 6) (h9 : F 9 = nI o) (ho : o < 4) : g_line F = some (13 + o) := by
  have a : ¬ nI o < 0 ∧ nI o < 4 := ⟨nI_pos (by omega), nI_lt (b := 4) ho (by decide)⟩
  unfold g_line
  rw [if_neg (by rw [h]; decide), if_neg (by rw [h]; decide), if_neg (by rw [h]; decide), if_pos h, h9, if_pos a, nI_clamp (by omega)]
theorem g_line7 {F : Nat → Int32} (h : F 6 = 7) : g_line F = some 17 := by
  unfold g_line
  rw [if_neg (by rw [h]; decide), if_neg (by rw [h]; decide), if_neg (by rw [h]; decide), if_neg (by rw [h]; decide), if_pos h]
theorem g_line0 {F : Nat → Int32} (h : F 6 = 0 ∨ F 6 = 3 ∨ F 6 = 4 ∨ F 6 = 8 ∨ F 6 = 9 ∨ F 6 = 10) : g_line F = none := by
  have a : ¬ F 6 = 1 ∧ ¬ F 6 = 2 ∧ ¬ F 6 = 5 ∧ ¬ F 6 = 6 ∧ ¬ F 6 = 7 := by rcases h with h | h | h | h | h | h <;> rw [h] <;> decide
  unfold g_line
  rw [if_neg a.1, if_neg a.2.1, if_neg a.2.2.1, if_neg a.2.2.2.1, if_neg a.2.2.2.2]
theorem g_line_inv {F : Nat → Int32} {q : Nat} (h : g_line F = some q) : (F 6 = 1 ∧ ∃ r, r < 6 ∧ F 7 = nI r ∧ q = r) ∨ (F 6 = 2 ∧ ∃ r, r < 6 ∧ F 7 = nI r ∧ q = 6 + r) ∨ (F 6 = 5 ∧ q = 12) ∨ (F 6 = 6 ∧ ∃ o, o < 4 ∧ F 9 = nI o ∧ q = 13 + o) ∨ (F 6 = 7 ∧ q = 17) := by
  unfold g_line at h
  by_cases h1 : F 6 = 1
  · rw [if_pos h1] at h
    split at h
    · rename_i a
      obtain ⟨r, hr, e, ec⟩ := m_small (k := 6) a (by decide)
      rw [ec] at h
      exact Or.inl ⟨h1, r, hr, e, (Option.some.inj h).symm⟩
    · cases h
  rw [if_neg h1] at h
  by_cases h2 : F 6 = 2
  · rw [if_pos h2] at h
    split at h
    · rename_i a
      obtain ⟨r, hr, e, ec⟩ := m_small (k := 6) a (by decide)
      rw [ec] at h
      exact Or.inr (Or.inl ⟨h2, r, hr, e, (Option.some.inj h).symm⟩)
    · cases h
  rw [if_neg h2] at h
  by_cases h5 : F 6 = 5
  · rw [if_pos h5] at h
    exact Or.inr (Or.inr (Or.inl ⟨h5, (Option.some.inj h).symm⟩))
  rw [if_neg h5] at h
  by_cases h6 : F 6 = 6
  · rw [if_pos h6] at h
    split at h
    · rename_i a
      obtain ⟨r, hr, e, ec⟩ := m_small (k := 4) a (by decide)
      rw [ec] at h
      exact Or.inr (Or.inr (Or.inr (Or.inl ⟨h6, r, hr, e, (Option.some.inj h).symm⟩)))
    · cases h
  rw [if_neg h6] at h
  by_cases h7 : F 6 = 7
  · rw [if_pos h7] at h
    exact Or.inr (Or.inr (Or.inr (Or.inr ⟨h7, (Option.some.inj h).symm⟩)))
  rw [if_neg h7] at h
  cases h
theorem g_line_lt {F : Nat → Int32} {q : Nat} (h : g_line F = some q) : q < 18 := by
  rcases g_line_inv h with ⟨-, r, hr, -, rfl⟩ | ⟨-, r, hr, -, rfl⟩ | ⟨-, rfl⟩ | ⟨-, r, hr, -, rfl⟩ | ⟨-, rfl⟩ <;> omega
/-- counting -/
theorem v_len : ∀ (n : Nat) (P : Nat → Prop) [DecidablePred P] (xs : List Nat), xs.Nodup → (∀ i, i ∈ xs ↔ (i < n ∧ P i)) → xs.length = m_ct P n := by
  intro n
  induction n with
  | zero =>
    intro P _ xs _ hm
    match xs with
    | [] => rfl
    | x :: ys => exact absurd ((hm x).mp List.mem_cons_self).1 (Nat.not_lt_zero _)
  | succ n ih =>
    intro P _ xs hd hm
    have hd2 : (xs.erase n).Nodup := hd.erase n
    have hm2 : ∀ i, i ∈ xs.erase n ↔ (i < n ∧ P i) := fun i => by
      rw [hd.mem_erase_iff, hm i]
      constructor
      · rintro ⟨h1, h2, h3⟩
        exact ⟨by omega, h3⟩
      · rintro ⟨h1, h2⟩
        exact ⟨by omega, by omega, h2⟩
    have h0 := ih P (xs.erase n) hd2 hm2
    rw [m_ct_s, ← h0]
    by_cases hp : P n
    · have hx : n ∈ xs := (hm n).mpr ⟨by omega, hp⟩
      have h1 := List.length_erase_of_mem hx
      have h2 := List.length_pos_of_mem hx
      rw [if_pos hp]
      omega
    · have hx : n ∉ xs := fun z => hp ((hm n).mp z).2
      rw [if_neg hp, List.erase_of_not_mem hx]
      rfl
theorem m_rm_mem {xs : List Nat} {i j : Nat} : j ∈ m_rm xs i ↔ (j ∈ xs ∧ j ≠ i) := by
  unfold m_rm
  rw [List.mem_filter]
  constructor
  · rintro ⟨h1, h2⟩
    exact ⟨h1, fun e => by simp [e] at h2⟩
  · rintro ⟨h1, h2⟩
    exact ⟨h1, by simp [h2]⟩
theorem m_rm_nodup {xs : List Nat} {i : Nat} (h : xs.Nodup) : (m_rm xs i).Nodup := h.sublist List.filter_sublist
theorem m_rm_eq {xs : List Nat} {i : Nat} (h : xs.Nodup) : m_rm xs i = xs.erase i := (h.erase_eq_filter i).symm
theorem m_rm_len {xs : List Nat} {i : Nat} (h : xs.Nodup) (hi : i ∈ xs) : (m_rm xs i).length + 1 = xs.length := by
  rw [m_rm_eq h, List.length_erase_of_mem hi]
  have := List.length_pos_of_mem hi
  omega
theorem m_rm_out {xs : List Nat} {i : Nat} (hi : i ∉ xs) : m_rm xs i = xs := by
  unfold m_rm
  exact List.filter_eq_self.mpr (fun y hy => by
    have : y ≠ i := fun e => hi (e ▸ hy)
    simp [this])
/-- each log that is on a line is on the line of its place; the log x is on none -/
def v_lns (ρ : vR) (x : Nat) : Prop := ∀ q, q < 18 → (v_Q ρ q).Nodup ∧ ∀ i, i ∈ v_Q ρ q ↔ (i < v_n ρ ∧ i ≠ x ∧ g_line (v_L ρ i) = some q)
def v_inv (ρ : vR) : Prop := v_n ρ ≤ 40 ∧ (∀ i, i < v_n ρ → g_row (v_L ρ i)) ∧ v_lns ρ (v_n ρ)
def v_mid (ρ : vR) (x : Nat) : Prop := v_n ρ ≤ 40 ∧ x < v_n ρ ∧ (∀ i, i < v_n ρ → i ≠ x → g_row (v_L ρ i)) ∧ v_lns ρ x
theorem v_mid.but {ρ ρ' : vR} {x : Nat} (h : v_mid ρ x) (hn : v_n ρ' = v_n ρ) (hQ : v_Q ρ' = v_Q ρ) (hL : ∀ i, i ≠ x → v_L ρ' i = v_L ρ i) : v_mid ρ' x := by
  obtain ⟨h1, h2, h3, h4⟩ := h
  refine ⟨by rw [hn]; exact h1, by rw [hn]; exact h2, fun i hi hx => by rw [hL i hx]; exact h3 i (by rw [← hn]; exact hi) hx, fun q hq => ?_⟩
  rw [hQ, hn]
  refine ⟨(h4 q hq).1, fun i => ?_⟩
  rw [(h4 q hq).2 i]
  constructor
  · rintro ⟨a, b, c⟩
    exact ⟨a, b, by rw [hL i b]; exact c⟩
  · rintro ⟨a, b, c⟩
    exact ⟨a, b, by rw [hL i b] at c; exact c⟩
theorem v_mid.sL {ρ : vR} {x : Nat} (h : v_mid ρ x) (f : Nat) (v : Int32) : v_mid (v_sL ρ x f v) x := h.but rfl rfl (fun i hi => by
  funext f'
  rw [v_L_sL, if_neg (fun z => hi z.1)])
theorem v_inv.but {ρ ρ' : vR} (h : v_inv ρ) (hn : v_n ρ' = v_n ρ) (hQ : v_Q ρ' = v_Q ρ) (hL : ∀ i, i < v_n ρ → g_row (v_L ρ' i)) (hl : ∀ i, i < v_n ρ → g_line (v_L ρ' i) = g_line (v_L ρ i)) : v_inv ρ' := by
  obtain ⟨h1, h2, h4⟩ := h
  refine ⟨by rw [hn]; exact h1, fun i hi => hL i (by rw [← hn]; exact hi), fun q hq => ?_⟩
  rw [hQ, hn]
  refine ⟨(h4 q hq).1, fun i => ?_⟩
  rw [(h4 q hq).2 i]
  constructor
  · rintro ⟨a, b, c⟩
    exact ⟨a, b, by rw [hl i a]; exact c⟩
  · rintro ⟨a, b, c⟩
    exact ⟨a, b, by rw [hl i a] at c; exact c⟩
/-- a log is taken off its line -/
theorem v_inv.off {ρ : vR} (h : v_inv ρ) {x q : Nat} (hx : x < v_n ρ) (hq : g_line (v_L ρ x) = some q) : v_mid (v_sQ ρ q (m_rm (v_Q ρ q) x)) x := by
  obtain ⟨h1, h2, h4⟩ := h
  refine ⟨h1, hx, fun i hi _ => h2 i hi, fun q' hq' => ?_⟩
  rw [v_Q_sQ]
  by_cases e : q' = q
  · subst e
    rw [if_pos rfl]
    refine ⟨m_rm_nodup (h4 q' hq').1, fun i => ?_⟩
    rw [m_rm_mem, (h4 q' hq').2 i]
    constructor
    · rintro ⟨⟨a, b, c⟩, d⟩
      exact ⟨a, d, c⟩
    · rintro ⟨a, b, c⟩
      exact ⟨⟨a, Nat.ne_of_lt a, c⟩, b⟩
  · rw [if_neg e]
    refine ⟨(h4 q' hq').1, fun i => ?_⟩
    rw [(h4 q' hq').2 i]
    constructor
    · rintro ⟨a, b, c⟩
      refine ⟨a, fun z => ?_, c⟩
      rw [z, hq] at c
      exact e (Option.some.inj c).symm
    · rintro ⟨a, b, c⟩
      exact ⟨a, Nat.ne_of_lt a, c⟩
/-- a log on no line -/
theorem v_inv.free {ρ : vR} (h : v_inv ρ) {x : Nat} (hx : x < v_n ρ) (hq : g_line (v_L ρ x) = none) : v_mid ρ x := by
  obtain ⟨h1, h2, h4⟩ := h
  refine ⟨h1, hx, fun i hi _ => h2 i hi, fun q' hq' => ⟨(h4 q' hq').1, fun i => ?_⟩⟩
  rw [(h4 q' hq').2 i]
  constructor
  · rintro ⟨a, b, c⟩
    refine ⟨a, fun z => ?_, c⟩
    rw [z, hq] at c
    cases c
  · rintro ⟨a, b, c⟩
    exact ⟨a, Nat.ne_of_lt a, c⟩
theorem v_mid.done {ρ : vR} {x : Nat} (h : v_mid ρ x) (hr : g_row (v_L ρ x)) (hq : g_line (v_L ρ x) = none) : v_inv ρ := by
  obtain ⟨h1, h2, h3, h4⟩ := h
  refine ⟨h1, fun i hi => ?_, fun q' hq' => ⟨(h4 q' hq').1, fun i => ?_⟩⟩
  · by_cases e : i = x
    · rw [e]
      exact hr
    · exact h3 i hi e
  · rw [(h4 q' hq').2 i]
    constructor
    · rintro ⟨a, b, c⟩
      exact ⟨a, Nat.ne_of_lt a, c⟩
    · rintro ⟨a, b, c⟩
      refine ⟨a, fun z => ?_, c⟩
      rw [z, hq] at c
      cases c
theorem v_mid.len {ρ : vR} {x q : Nat} (h : v_mid ρ x) (hq : q < 18) : (v_Q ρ q).length < 40 := by
  obtain ⟨h1, h2, h3, h4⟩ := h
  have hd : (x :: v_Q ρ q).Nodup := List.nodup_cons.mpr ⟨fun z => (((h4 q hq).2 x).mp z).2.1 rfl, (h4 q hq).1⟩
  have := v_len (v_n ρ) (fun i => i = x ∨ i ∈ v_Q ρ q) (x :: v_Q ρ q) hd (fun i => by
    rw [List.mem_cons]
    constructor
    · rintro (rfl | z)
      · exact ⟨h2, Or.inl rfl⟩
      · exact ⟨(((h4 q hq).2 i).mp z).1, Or.inr z⟩
    · exact fun z => z.2)
  have h5 := m_ct_le (fun i => i = x ∨ i ∈ v_Q ρ q) (v_n ρ)
  rw [List.length_cons] at this
  omega
/-- a log is put at the end of its line -/
theorem v_mid.put {ρ : vR} {x q : Nat} (h : v_mid ρ x) (hr : g_row (v_L ρ x)) (hq : g_line (v_L ρ x) = some q) : v_inv (v_sQ ρ q (m_app (v_Q ρ q) x)) := by
  have hlt := g_line_lt hq
  have hlen := h.len hlt
  obtain ⟨h1, h2, h3, h4⟩ := h
  refine ⟨h1, fun i hi => ?_, fun q' hq' => ?_⟩
  · by_cases e : i = x
    · rw [e]
      exact hr
    · exact h3 i hi e
  rw [v_Q_sQ]
  by_cases e : q' = q
  · subst e
    rw [if_pos rfl]
    unfold m_app
    rw [if_pos hlen]
    have hx : x ∉ v_Q ρ q' := fun z => (((h4 q' hq').2 x).mp z).2.1 rfl
    refine ⟨List.nodup_append.mpr ⟨(h4 q' hq').1, by simp, fun a ha b hb e => by
      rw [List.mem_singleton] at hb
      exact hx (hb ▸ e ▸ ha)⟩, fun i => ?_⟩
    rw [List.mem_append, List.mem_singleton, (h4 q' hq').2 i]
    constructor
    · rintro (⟨a, b, c⟩ | rfl)
      · exact ⟨a, Nat.ne_of_lt a, c⟩
      · exact ⟨h2, Nat.ne_of_lt h2, hq⟩
    · rintro ⟨a, b, c⟩
      by_cases z : i = x
      · exact Or.inr z
      · exact Or.inl ⟨a, z, c⟩
  · rw [if_neg e]
    refine ⟨(h4 q' hq').1, fun i => ?_⟩
    rw [(h4 q' hq').2 i]
    constructor
    · rintro ⟨a, b, c⟩
      exact ⟨a, Nat.ne_of_lt a, c⟩
    · rintro ⟨a, b, c⟩
      refine ⟨a, fun z => ?_, c⟩
      subst z
      have c' : g_line (v_L ρ i) = some q' := c
      rw [hq] at c'
      exact e (Option.some.inj c').symm
