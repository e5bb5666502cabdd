/-! ===== loading and unloading ===== -/
theorem g_p7 {F : Nat → Int32} (h : g_pl F) (h6 : F 6 = 6 ∨ F 6 = 8 ∨ F 6 = 9) : F 7 = -1 := by
  rcases h with ⟨z, -⟩ | ⟨z, -⟩ | ⟨-, e, -⟩
  · rcases h6 with e | e | e <;> exact absurd z (by rw [e]; decide)
  · rcases h6 with e | e | e <;> exact absurd z (by rw [e]; decide)
  · exact e
/-- one log from a gap to a raft -/
def m_ld1 (ρ : vR) (q i : Nat) (raft : Int32) : vR := v_sL (v_sL (v_sQ ρ q (m_rm (v_Q ρ q) i)) i 6 8) i 10 raft
theorem m_ld1_st {ρ : vR} (h : v_inv ρ) {o i : Nat} (ho : o < 4) (hi : i ∈ v_Q ρ (13 + o)) (raft : Int32) : v_inv (m_ld1 ρ (13 + o) i raft) ∧ (∀ j, j ≠ i → v_L (m_ld1 ρ (13 + o) i raft) j = v_L ρ j) ∧ v_L (m_ld1 ρ (13 + o) i raft) i 6 = 8 ∧ v_L (m_ld1 ρ (13 + o) i raft) i 10 = raft ∧ v_L (m_ld1 ρ (13 + o) i raft) i 4 = v_L ρ i 4 ∧ (v_Q (m_ld1 ρ (13 + o) i raft) (13 + o)) = m_rm (v_Q ρ (13 + o)) i := by
  obtain ⟨hin, h6, h9⟩ := h.on6 ho hi
  have hrow := h.2.1 i hin
  have hm := ((h.off hin (g_line6 h6 h9 ho)).sL 6 8).sL 10 raft
  have eb : m_ld1 ρ (13 + o) i raft = v_sL (v_sL (v_sQ ρ (13 + o) (m_rm (v_Q ρ (13 + o)) i)) i 6 8) i 10 raft := rfl
  rw [← eb] at hm
  have e6 : v_L (m_ld1 ρ (13 + o) i raft) i 6 = 8 := by rw [eb, v_L_nf (by decide), v_L_eq]
  have e10 : v_L (m_ld1 ρ (13 + o) i raft) i 10 = raft := by rw [eb, v_L_eq]
  have ef : ∀ f, f ≠ 10 → f ≠ 6 → v_L (m_ld1 ρ (13 + o) i raft) i f = v_L ρ i f := fun f a b => by
    rw [eb, v_L_nf a, v_L_nf b]
    rfl
  refine ⟨hm.done (g_row_of hrow.1 (hrow.dry (by rw [h6]; decide)) (ef 1 (by decide) (by decide)) (ef 2 (by decide) (by decide)) (ef 3 (by decide) (by decide)) (by rw [ef 4 (by decide) (by decide)]; exact hrow.1.2.2.2) (ef 5 (by decide) (by decide)) (Or.inr (Or.inr ⟨Or.inr (Or.inl e6), ?_, o, ho, ?_⟩))) (g_line0 (by rw [e6]; decide)), fun j hj => ?_, e6, e10, ef 4 (by decide) (by decide), ?_⟩
  · rw [ef 7 (by decide) (by decide)]
    exact g_p7 hrow.2.2 (Or.inl h6)
  · rw [ef 9 (by decide) (by decide)]
    exact h9
  · rw [eb, v_L_ne hj, v_L_ne hj]
    rfl
  · rw [eb]
    show v_Q (v_sQ ρ (13 + o) (m_rm (v_Q ρ (13 + o)) i)) (13 + o) = _
    rw [v_Q_sQ, if_pos rfl]
theorem m_ld_st (o : Nat) (ho : o < 4) (kind least raft : Int32) (M : Nat) (hM : M < 1000) : ∀ (xs : List Nat) (ρ : vR) (t : Nat), t < 2000 → v_inv ρ → xs.Nodup → (∀ i ∈ xs, i ∈ v_Q ρ (13 + o)) → v_inv (m_ld (13 + o) kind least raft (nI M) xs ρ t).1 ∧ v_n (m_ld (13 + o) kind least raft (nI M) xs ρ t).1 = v_n ρ ∧ v_now (m_ld (13 + o) kind least raft (nI M) xs ρ t).1 = v_now ρ ∧ v_R (m_ld (13 + o) kind least raft (nI M) xs ρ t).1 = v_R ρ ∧ (∀ i, g_mn (v_L ρ i) (v_L (m_ld (13 + o) kind least raft (nI M) xs ρ t).1 i)) ∧ (∀ i, v_L (m_ld (13 + o) kind least raft (nI M) xs ρ t).1 i = v_L ρ i ∨ (v_L ρ i 6 = 6 ∧ v_L (m_ld (13 + o) kind least raft (nI M) xs ρ t).1 i 6 = 8 ∧ v_L (m_ld (13 + o) kind least raft (nI M) xs ρ t).1 i 10 = raft)) ∧ t ≤ (m_ld (13 + o) kind least raft (nI M) xs ρ t).2 ∧ (t ≤ M → (m_ld (13 + o) kind least raft (nI M) xs ρ t).2 ≤ M) ∧ (v_Q (m_ld (13 + o) kind least raft (nI M) xs ρ t).1 (13 + o)).length + (m_ld (13 + o) kind least raft (nI M) xs ρ t).2 = (v_Q ρ (13 + o)).length + t ∧ ((m_ld (13 + o) kind least raft (nI M) xs ρ t).2 = t → ∀ i, v_L (m_ld (13 + o) kind least raft (nI M) xs ρ t).1 i = v_L ρ i) ∧ (t < (m_ld (13 + o) kind least raft (nI M) xs ρ t).2 → ∃ i, i < v_n ρ ∧ v_L (m_ld (13 + o) kind least raft (nI M) xs ρ t).1 i 6 = 8 ∧ v_L (m_ld (13 + o) kind least raft (nI M) xs ρ t).1 i 10 = raft) := by
  intro xs
  induction xs with
  | nil => exact fun ρ t _ h _ _ => ⟨h, rfl, rfl, rfl, fun _ => g_mn.rf, fun _ => Or.inl rfl, Nat.le_refl _, fun z => z, rfl, fun _ _ => rfl, fun z => absurd z (Nat.lt_irrefl _)⟩
  | cons i xs ih =>
    intro ρ t ht2 h hd hm
    rw [List.nodup_cons] at hd
    by_cases hlt : nI t < nI M
    · have htM : t < M := (nI_ltI (by omega) (by omega)).mp hlt
      by_cases hk : v_L ρ i 1 = kind ∧ least ≤ v_L ρ i 2
      · have e : m_ld (13 + o) kind least raft (nI M) (i :: xs) ρ t = m_ld (13 + o) kind least raft (nI M) xs (m_ld1 ρ (13 + o) i raft) (t + 1) := by
          show (if nI t < nI M then _ else _) = _
          rw [if_pos hlt, if_pos hk]
          rfl
        rw [e]
        have hi := hm i List.mem_cons_self
        obtain ⟨hin, h6, -⟩ := h.on6 ho hi
        obtain ⟨s1, s2, s3, s4, s5, s6⟩ := m_ld1_st h ho hi raft
        have hmn : ∀ j, g_mn (v_L ρ j) (v_L (m_ld1 ρ (13 + o) i raft) j) := fun j => by
          by_cases z : j = i
          · subst z
            exact ⟨fun y => by rw [h6] at y; exact absurd y (by decide), fun _ => by rw [s3]; decide, by rw [s5]; exact Int32.and_self⟩
          · rw [s2 j z]
            exact g_mn.rf
        obtain ⟨a1, a2, a3, a4, a5, a6, a7, a8, a9, a10, a11⟩ := ih (m_ld1 ρ (13 + o) i raft) (t + 1) (by omega) s1 hd.2 (fun j hj => by
          rw [s6, m_rm_mem]
          exact ⟨hm j (List.mem_cons_of_mem _ hj), fun z => hd.1 (z ▸ hj)⟩)
        have hlen := m_rm_len (h.nodup (q := 13 + o) (by omega)) hi
        rw [s6] at a9
        have at_i : v_L (m_ld (13 + o) kind least raft (nI M) xs (m_ld1 ρ (13 + o) i raft) (t + 1)).1 i = v_L (m_ld1 ρ (13 + o) i raft) i := by
          rcases a6 i with z | ⟨z, -, -⟩
          · exact z
          · rw [s3] at z
            exact absurd z (by decide)
        refine ⟨a1, a2, a3, a4, fun j => (hmn j).tr (a5 j), fun j => ?_, by omega, fun _ => a8 (by omega), by omega, fun z => by omega, fun _ => ⟨i, hin, by rw [at_i]; exact s3, by rw [at_i]; exact s4⟩⟩
        by_cases z : j = i
        · subst z
          exact Or.inr ⟨h6, by rw [at_i]; exact s3, by rw [at_i]; exact s4⟩
        · rw [← s2 j z]
          exact a6 j
      · have e : m_ld (13 + o) kind least raft (nI M) (i :: xs) ρ t = m_ld (13 + o) kind least raft (nI M) xs ρ t := by
          show (if nI t < nI M then _ else _) = _
          rw [if_pos hlt, if_neg hk]
        rw [e]
        exact ih ρ t ht2 h hd.2 (fun j hj => hm j (List.mem_cons_of_mem _ hj))
    · have e : m_ld (13 + o) kind least raft (nI M) (i :: xs) ρ t = (ρ, t) := by
        show (if nI t < nI M then _ else _) = _
        rw [if_neg hlt]
      rw [e]
      exact ⟨h, rfl, rfl, rfl, fun _ => g_mn.rf, fun _ => Or.inl rfl, Nat.le_refl _, fun z => z, rfl, fun _ _ => rfl, fun z => absurd z (Nat.lt_irrefl _)⟩
/-- sums that stay in range -/
theorem g_add {a b : Int32} (h1 : -2147483648 ≤ a.toInt + b.toInt) (h2 : a.toInt + b.toInt < 2147483648) : (a + b).toInt = a.toInt + b.toInt := by
  rw [Int32.toInt_add, Int.bmod_def]
  have e : ((2 ^ 32 : Nat) : Int) = 4294967296 := by decide
  rw [e]
  split <;> omega
theorem g_sub {a b : Int32} (h1 : -2147483648 ≤ a.toInt - b.toInt) (h2 : a.toInt - b.toInt < 2147483648) : (a - b).toInt = a.toInt - b.toInt := by
  rw [Int32.toInt_sub, Int.bmod_def]
  have e : ((2 ^ 32 : Nat) : Int) = 4294967296 := by decide
  rw [e]
  split <;> omega
