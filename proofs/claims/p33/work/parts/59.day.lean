/-! ===== a day keeps the river ===== -/
theorem v_sQ_tw (ρ : vR) (q : Nat) (xs ys : List Nat) : v_sQ (v_sQ ρ q xs) q ys = v_sQ ρ q ys := by
  have e : (fun q' => if q' = q then ys else v_Q (v_sQ ρ q xs) q') = fun q' => if q' = q then ys else v_Q ρ q' := by
    funext q'
    by_cases z : q' = q
    · rw [if_pos z, if_pos z]
    · rw [if_neg z, if_neg z, v_Q_sQ, if_neg z]
  show (v_now ρ, v_room ρ, v_n ρ, v_L ρ, v_R ρ, _) = (v_now ρ, v_room ρ, v_n ρ, v_L ρ, v_R ρ, _)
  rw [e]
theorem v_sQ_co (ρ : vR) {q p : Nat} (h : q ≠ p) (xs ys : List Nat) : v_sQ (v_sQ ρ q xs) p ys = v_sQ (v_sQ ρ p ys) q xs := by
  have e : (fun q' => if q' = p then ys else v_Q (v_sQ ρ q xs) q') = fun q' => if q' = q then xs else v_Q (v_sQ ρ p ys) q' := by
    funext q'
    rw [v_Q_sQ, v_Q_sQ]
    by_cases z : q' = p
    · rw [if_pos z, if_pos z, if_neg (fun y => h (y.symm.trans z))]
    · rw [if_neg z, if_neg z]
  show (v_now ρ, v_room ρ, v_n ρ, v_L ρ, v_R ρ, _) = (v_now ρ, v_room ρ, v_n ρ, v_L ρ, v_R ρ, _)
  rw [e]
theorem v_sQ_se (ρ : vR) (q : Nat) : v_sQ ρ q (v_Q ρ q) = ρ := by
  have e : (fun q' => if q' = q then v_Q ρ q else v_Q ρ q') = v_Q ρ := by
    funext q'
    by_cases z : q' = q
    · rw [if_pos z, z]
    · rw [if_neg z]
  show (v_now ρ, v_room ρ, v_n ρ, v_L ρ, v_R ρ, _) = (v_now ρ, v_room ρ, v_n ρ, v_L ρ, v_R ρ, v_Q ρ)
  rw [e]
/-- who stands on a line -/
theorem v_inv.nodup {ρ : vR} (h : v_inv ρ) {q : Nat} (hq : q < 18) : (v_Q ρ q).Nodup := (h.2.2 q hq).1
theorem v_inv.on1 {ρ : vR} (h : v_inv ρ) {r : Nat} (hr : r < 6) {i : Nat} (hi : i ∈ v_Q ρ r) : i < v_n ρ ∧ v_L ρ i 6 = 1 ∧ v_L ρ i 7 = nI r := by
  obtain ⟨a, -, c⟩ := ((h.2.2 r (by omega)).2 i).mp hi
  rcases g_line_inv c with ⟨e, r', h1, h2, h3⟩ | ⟨-, r', h1, -, h3⟩ | ⟨-, h3⟩ | ⟨-, r', h1, -, h3⟩ | ⟨-, h3⟩
  · subst h3
    exact ⟨a, e, h2⟩
  all_goals omega
theorem v_inv.on2 {ρ : vR} (h : v_inv ρ) {r : Nat} (hr : r < 6) {i : Nat} (hi : i ∈ v_Q ρ (6 + r)) : i < v_n ρ ∧ v_L ρ i 6 = 2 ∧ v_L ρ i 7 = nI r := by
  obtain ⟨a, -, c⟩ := ((h.2.2 (6 + r) (by omega)).2 i).mp hi
  rcases g_line_inv c with ⟨-, r', h1, -, h3⟩ | ⟨e, r', h1, h2, h3⟩ | ⟨-, h3⟩ | ⟨-, r', h1, -, h3⟩ | ⟨-, h3⟩
  · omega
  · obtain rfl : r = r' := by omega
    exact ⟨a, e, h2⟩
  all_goals omega
theorem v_inv.on5 {ρ : vR} (h : v_inv ρ) {i : Nat} (hi : i ∈ v_Q ρ 12) : i < v_n ρ ∧ v_L ρ i 6 = 5 := by
  obtain ⟨a, -, c⟩ := ((h.2.2 12 (by decide)).2 i).mp hi
  rcases g_line_inv c with ⟨-, r', h1, -, h3⟩ | ⟨-, r', h1, -, h3⟩ | ⟨e, -⟩ | ⟨-, r', h1, -, h3⟩ | ⟨-, h3⟩
  · omega
  · omega
  · exact ⟨a, e⟩
  all_goals omega
theorem v_inv.on6 {ρ : vR} (h : v_inv ρ) {o : Nat} (ho : o < 4) {i : Nat} (hi : i ∈ v_Q ρ (13 + o)) : i < v_n ρ ∧ v_L ρ i 6 = 6 ∧ v_L ρ i 9 = nI o := by
  obtain ⟨a, -, c⟩ := ((h.2.2 (13 + o) (by omega)).2 i).mp hi
  rcases g_line_inv c with ⟨-, r', h1, -, h3⟩ | ⟨-, r', h1, -, h3⟩ | ⟨-, h3⟩ | ⟨e, r', h1, h2, h3⟩ | ⟨-, h3⟩
  · omega
  · omega
  · omega
  · obtain rfl : o = r' := by omega
    exact ⟨a, e, h2⟩
  · omega
theorem v_inv.on7 {ρ : vR} (h : v_inv ρ) {i : Nat} (hi : i ∈ v_Q ρ 17) : i < v_n ρ ∧ v_L ρ i 6 = 7 := by
  obtain ⟨a, -, c⟩ := ((h.2.2 17 (by decide)).2 i).mp hi
  rcases g_line_inv c with ⟨-, r', h1, -, h3⟩ | ⟨-, r', h1, -, h3⟩ | ⟨-, h3⟩ | ⟨-, r', h1, -, h3⟩ | ⟨e, -⟩
  · omega
  · omega
  · omega
  · omega
  · exact ⟨a, e⟩
theorem v_inv.l40 {ρ : vR} (h : v_inv ρ) {q : Nat} (hq : q < 18) : (v_Q ρ q).length ≤ v_n ρ := by
  have := v_len (v_n ρ) (fun i => i ∈ v_Q ρ q) (v_Q ρ q) (h.nodup hq) (fun i => ⟨fun z => ⟨(((h.2.2 q hq).2 i).mp z).1, z⟩, fun z => z.2⟩)
  have h5 := m_ct_le (fun i => i ∈ v_Q ρ q) (v_n ρ)
  omega
/-- a jam breaks -/
theorem m_brk_inv (r : Nat) (hr : r < 6) : ∀ (js : List Nat) (ρ : vR), v_inv (v_sQ ρ (6 + r) js) → v_inv (v_sQ (m_brk ρ r js) (6 + r) []) := by
  intro js
  induction js with
  | nil => exact fun ρ h => h
  | cons i js ih =>
    intro ρ h
    have hi : i ∈ v_Q (v_sQ ρ (6 + r) (i :: js)) (6 + r) := by rw [v_Q_sQ, if_pos rfl]; exact List.mem_cons_self
    obtain ⟨h1, h2, h3⟩ := h.on2 hr hi
    have hd := h.nodup (q := 6 + r) (by omega)
    rw [v_Q_sQ, if_pos rfl] at hd
    have hrow := h.2.1 i h1
    have hm := h.off h1 (g_line2 h2 h3 hr)
    have e : m_rm (v_Q (v_sQ ρ (6 + r) (i :: js)) (6 + r)) i = js := by
      rw [v_Q_sQ, if_pos rfl]
      have := m_rm_mid (ks := []) (xs := js) (i := i) hd
      exact this
    rw [e, v_sQ_tw] at hm
    have e4 : v_L (v_sL (v_sQ ρ (6 + r) js) i 6 1) i 4 = v_L ρ i 4 := v_L_nf (by decide)
    have hp := (hm.sL 6 1).put (q := r) (g_row_of (F := v_L ρ i) hrow.1 (hrow.dry (by rw [h2]; decide)) (v_L_nf (by decide)) (v_L_nf (by decide)) (v_L_nf (by decide)) (by rw [e4]; exact hrow.1.2.2.2) (v_L_nf (by decide)) (Or.inl ⟨by rw [v_L_eq]; decide, r, hr, (v_L_nf (by decide)).trans h3⟩)) (g_line1 v_L_eq ((v_L_nf (by decide)).trans h3) hr)
    have e2 : v_Q (v_sL (v_sQ ρ (6 + r) js) i 6 1) r = v_Q ρ r := by
      show v_Q (v_sQ ρ (6 + r) js) r = _
      rw [v_Q_sQ, if_neg (by omega)]
    rw [e2] at hp
    have e3 : v_sQ (v_sL (v_sQ ρ (6 + r) js) i 6 1) r (m_app (v_Q ρ r) i) = v_sQ (v_sQ (v_sL ρ i 6 1) r (m_app (v_Q ρ r) i)) (6 + r) js := v_sQ_co (v_sL ρ i 6 1) (by omega) js _
    rw [e3] at hp
    exact ih _ hp
theorem m_brk_mv (r : Nat) : ∀ (js : List Nat) (ρ : vR), (∀ i ∈ js, v_L ρ i 6 = 1 ∨ v_L ρ i 6 = 2) → v_mv ρ (m_brk ρ r js) := by
  intro js
  induction js with
  | nil => exact fun ρ h => v_mv.rf
  | cons i js ih =>
    intro ρ h
    have hi := h i List.mem_cons_self
    have e4 : v_L (v_sL ρ i 6 1) i 4 = v_L ρ i 4 := v_L_nf (by decide)
    have h1 : v_mv ρ (v_sL ρ i 6 1) := v_mv.one rfl rfl rfl (fun j hj => v_L_ne hj) (g_mv.of (by rcases hi with e | e <;> rw [e] <;> decide) (g_p12 hi).2 (by rw [v_L_eq]; decide) (by rw [v_L_eq]; decide) (by rw [e4]; exact Int32.and_self))
    refine (h1.tr (v_mv.sQ r _)).tr (ih _ (fun j hj => ?_))
    show v_L (v_sL ρ i 6 1) j 6 = 1 ∨ v_L (v_sL ρ i 6 1) j 6 = 2
    by_cases e : j = i
    · rw [e, v_L_eq]
      exact Or.inl rfl
    · rw [v_L_ne e]
      exact h j (List.mem_cons_of_mem _ hj)
theorem m_break_st {ρ : vR} (h : v_inv ρ) {r : Nat} (hr : r < 6) : v_inv (m_break ρ r) ∧ v_mv ρ (m_break ρ r) ∧ v_Q (m_break ρ r) (6 + r) = [] := by
  refine ⟨m_brk_inv r hr _ ρ (by rw [v_sQ_se]; exact h), (m_brk_mv r _ ρ (fun i hi => Or.inr (h.on2 hr hi).2.1)).tr (v_mv.sQ _ _), ?_⟩
  unfold m_break
  rw [v_Q_sQ, if_pos rfl]
/-- soaking -/
theorem g_up : ∀ kd s : Nat, kd < 3 → s < 25 → nI s < m_lim (nI kd) → ¬ (nI s + (if nI kd = 2 then 2 else 1)) < 0 ∧ (nI s + (if nI kd = 2 then 2 else 1)) < 25 := by
  have : ∀ kd, kd < 3 → ∀ s, s < 25 → nI s < m_lim (nI kd) → ¬ (nI s + (if nI kd = 2 then 2 else 1)) < 0 ∧ (nI s + (if nI kd = 2 then 2 else 1)) < 25 := by decide +kernel
  exact fun kd s h1 h2 => this kd h1 s h2
theorem g_down : ∀ kd s : Nat, kd < 3 → s < 25 → nI s < m_lim (nI kd) → ¬ (if nI s - 1 < 0 then 0 else nI s - 1) < 0 ∧ (if nI s - 1 < 0 then 0 else nI s - 1) < 25 ∧ (if nI s - 1 < 0 then 0 else nI s - 1) < m_lim (nI kd) := by
  have : ∀ kd, kd < 3 → ∀ s, s < 25 → nI s < m_lim (nI kd) → ¬ (if nI s - 1 < 0 then 0 else nI s - 1) < 0 ∧ (if nI s - 1 < 0 then 0 else nI s - 1) < 25 ∧ (if nI s - 1 < 0 then 0 else nI s - 1) < m_lim (nI kd) := by decide +kernel
  exact fun kd s h1 h2 => this kd h1 s h2
theorem m_wet_line {F : Nat → Int32} (h : g_row F) (hp : F 6 = 1 ∨ F 6 = 2 ∨ F 6 = 5 ∨ F 6 = 6 ∨ F 6 = 7) : (∃ q, g_line F = some q) ∧ ((∃ r, r < 6 ∧ F 7 = nI r) ∨ F 7 = -1) := by
  obtain ⟨-, -, hpl⟩ := h
  rcases hp with e | e | e | e | e
  · rcases hpl with ⟨-, r, hr, h7⟩ | ⟨z, -⟩ | ⟨z, -⟩
    · exact ⟨⟨_, g_line1 e h7 hr⟩, Or.inl ⟨r, hr, h7⟩⟩
    · exact absurd z (by rw [e]; decide)
    · exact absurd z (by rw [e]; decide)
  · rcases hpl with ⟨-, r, hr, h7⟩ | ⟨z, -⟩ | ⟨z, -⟩
    · exact ⟨⟨_, g_line2 e h7 hr⟩, Or.inl ⟨r, hr, h7⟩⟩
    · exact absurd z (by rw [e]; decide)
    · exact absurd z (by rw [e]; decide)
  · rcases hpl with ⟨z, -⟩ | ⟨-, h7⟩ | ⟨-, h7, -⟩
    · exact absurd z (by rw [e]; decide)
    · exact ⟨⟨_, g_line5 e⟩, Or.inr h7⟩
    · exact ⟨⟨_, g_line5 e⟩, Or.inr h7⟩
  · rcases hpl with ⟨z, -⟩ | ⟨z, -⟩ | ⟨-, h7, o, ho, h9⟩
    · exact absurd z (by rw [e]; decide)
    · exact absurd z (by rw [e]; decide)
    · exact ⟨⟨_, g_line6 e h9 ho⟩, Or.inr h7⟩
  · rcases hpl with ⟨z, -⟩ | ⟨-, h7⟩ | ⟨-, h7, -⟩
    · exact absurd z (by rw [e]; decide)
    · exact ⟨⟨_, g_line7 e⟩, Or.inr h7⟩
    · exact ⟨⟨_, g_line7 e⟩, Or.inr h7⟩
theorem m_soak_st {ρ : vR} (h : v_inv ρ) {x : Nat} (hx : x < v_n ρ) : v_inv (m_soak ρ x) ∧ v_mv ρ (m_soak ρ x) := by
  have hrow := h.2.1 x hx
  have hk := m_small (k := 3) hrow.1.1 (by decide)
  have hs := m_small (k := 25) ⟨hrow.2.1.1, hrow.2.1.2.1⟩ (by decide)
  obtain ⟨kd, hkd, ek, -⟩ := hk
  obtain ⟨s, hs25, es, -⟩ := hs
  unfold m_soak
  split
  · rename_i hw
    obtain ⟨⟨q, hq⟩, h7⟩ := m_wet_line hrow hw
    have h4 : ¬ v_L ρ x 6 = 4 := by rcases hw with e | e | e | e | e <;> rw [e] <;> decide
    have h8 : ¬ 8 < v_L ρ x 6 := by rcases hw with e | e | e | e | e <;> rw [e] <;> decide
    have h8' : ¬ v_L ρ x 6 = 8 := by rcases hw with e | e | e | e | e <;> rw [e] <;> decide
    have h0 : ¬ v_L ρ x 6 = 0 := by rcases hw with e | e | e | e | e <;> rw [e] <;> decide
    have hd := hrow.dry h4
    have hup := g_up kd s hkd hs25 (by rw [← ek, ← es]; exact hd.2.2)
    rw [← ek, ← es] at hup
    generalize (v_L ρ x 5 + (if v_L ρ x 1 = 2 then 2 else 1)) = up at hup
    have e6 : v_L (v_sL ρ x 5 up) x 6 = v_L ρ x 6 := v_L_nf (by decide)
    have e1 : v_L (v_sL ρ x 5 up) x 1 = v_L ρ x 1 := v_L_nf (by decide)
    have e2 : v_L (v_sL ρ x 5 up) x 2 = v_L ρ x 2 := v_L_nf (by decide)
    have e3 : v_L (v_sL ρ x 5 up) x 3 = v_L ρ x 3 := v_L_nf (by decide)
    have e4 : v_L (v_sL ρ x 5 up) x 4 = v_L ρ x 4 := v_L_nf (by decide)
    have e5 : v_L (v_sL ρ x 5 up) x 5 = up := v_L_eq
    have e7 : v_L (v_sL ρ x 5 up) x 7 = v_L ρ x 7 := v_L_nf (by decide)
    have e9 : v_L (v_sL ρ x 5 up) x 9 = v_L ρ x 9 := v_L_nf (by decide)
    have el : g_line (v_L (v_sL ρ x 5 up) x) = g_line (v_L ρ x) := by
      unfold g_line
      rw [e6, e7, e9]
    split
    · rename_i hl
      refine ⟨h.but rfl rfl (fun i hi => ?_) (fun i hi => ?_), v_mv.one rfl rfl rfl (fun j hj => v_L_ne hj) (g_mv.of h8 h8' (by rw [e6]; exact h0) (by rw [e6]; exact h8') (by rw [e4]; exact Int32.and_self))⟩
      · by_cases e : i = x
        · subst e
          refine ⟨?_, ?_, ?_⟩
          · unfold g_bd
            rw [e1, e2, e3, e4]
            exact hrow.1
          · unfold g_wt
            rw [e5, e1]
            exact ⟨hup.1, hup.2, Or.inr hl⟩
          · unfold g_pl
            rw [e6, e7, e9]
            exact hrow.2.2
        · rw [v_L_ne e]
          exact h.2.1 i hi
      · by_cases e : i = x
        · rw [e]
          exact el
        · rw [v_L_ne e]
    · unfold m_sink m_sink1
      rw [m_line_g, el, hq]
      have hm := (h.off hx hq).sL 5 up
      have comm : v_sL (v_sQ ρ q (m_rm (v_Q ρ q) x)) x 5 up = v_sQ (v_sL ρ x 5 up) q (m_rm (v_Q (v_sL ρ x 5 up) q) x) := rfl
      rw [comm] at hm
      have hm2 := (((hm.sL 6 4).sL 7 (if v_L (v_sL ρ x 5 up) x 7 = -1 then 5 else v_L (v_sL ρ x 5 up) x 7)).sL 9 (-1)).sL 8 (v_now (v_sL ρ x 5 up))
      have f7 : ∃ r, r < 6 ∧ (if v_L (v_sL ρ x 5 up) x 7 = -1 then 5 else v_L (v_sL ρ x 5 up) x 7) = nI r := by
        rw [e7]
        rcases h7 with ⟨r, hr, e⟩ | e
        · refine ⟨r, hr, ?_⟩
          rw [if_neg (fun z => ?_), e]
          have := nI_pos (n := r) (by omega)
          rw [← e, z] at this
          exact this (by decide)
        · exact ⟨5, by decide, by rw [if_pos e]; decide⟩
      generalize (if v_L (v_sL ρ x 5 up) x 7 = -1 then 5 else v_L (v_sL ρ x 5 up) x 7) = w7 at hm2 f7
      have rows : ∀ i f, v_L (v_sL (v_sL (v_sL (v_sL (v_sQ (v_sL ρ x 5 up) q (m_rm (v_Q (v_sL ρ x 5 up) q) x)) x 6 4) x 7 w7) x 9 (-1)) x 8 (v_now (v_sL ρ x 5 up))) i f = if i = x ∧ f = 8 then v_now ρ else if i = x ∧ f = 9 then -1 else if i = x ∧ f = 7 then w7 else if i = x ∧ f = 6 then 4 else if i = x ∧ f = 5 then up else v_L ρ i f := fun i f => rfl
      have r6 : v_L (v_sL (v_sL (v_sL (v_sL (v_sQ (v_sL ρ x 5 up) q (m_rm (v_Q (v_sL ρ x 5 up) q) x)) x 6 4) x 7 w7) x 9 (-1)) x 8 (v_now (v_sL ρ x 5 up))) x 6 = 4 := by
        rw [rows]
        simp
      have r5 : v_L (v_sL (v_sL (v_sL (v_sL (v_sQ (v_sL ρ x 5 up) q (m_rm (v_Q (v_sL ρ x 5 up) q) x)) x 6 4) x 7 w7) x 9 (-1)) x 8 (v_now (v_sL ρ x 5 up))) x 5 = up := by
        rw [rows]
        simp
      have r7 : v_L (v_sL (v_sL (v_sL (v_sL (v_sQ (v_sL ρ x 5 up) q (m_rm (v_Q (v_sL ρ x 5 up) q) x)) x 6 4) x 7 w7) x 9 (-1)) x 8 (v_now (v_sL ρ x 5 up))) x 7 = w7 := by
        rw [rows]
        simp
      have r1 : v_L (v_sL (v_sL (v_sL (v_sL (v_sQ (v_sL ρ x 5 up) q (m_rm (v_Q (v_sL ρ x 5 up) q) x)) x 6 4) x 7 w7) x 9 (-1)) x 8 (v_now (v_sL ρ x 5 up))) x 1 = v_L ρ x 1 := by
        rw [rows]
        simp
      have r2 : v_L (v_sL (v_sL (v_sL (v_sL (v_sQ (v_sL ρ x 5 up) q (m_rm (v_Q (v_sL ρ x 5 up) q) x)) x 6 4) x 7 w7) x 9 (-1)) x 8 (v_now (v_sL ρ x 5 up))) x 2 = v_L ρ x 2 := by
        rw [rows]
        simp
      have r3 : v_L (v_sL (v_sL (v_sL (v_sL (v_sQ (v_sL ρ x 5 up) q (m_rm (v_Q (v_sL ρ x 5 up) q) x)) x 6 4) x 7 w7) x 9 (-1)) x 8 (v_now (v_sL ρ x 5 up))) x 3 = v_L ρ x 3 := by
        rw [rows]
        simp
      have r4 : v_L (v_sL (v_sL (v_sL (v_sL (v_sQ (v_sL ρ x 5 up) q (m_rm (v_Q (v_sL ρ x 5 up) q) x)) x 6 4) x 7 w7) x 9 (-1)) x 8 (v_now (v_sL ρ x 5 up))) x 4 = v_L ρ x 4 := by
        rw [rows]
        simp
      refine ⟨hm2.done ⟨?_, ?_, ?_⟩ (g_line0 (Or.inr (Or.inr (Or.inl r6)))), v_mv.one rfl rfl rfl (fun j hj => ?_) (g_mv.of h8 h8' (by rw [r6]; decide) (by rw [r6]; decide) ?_)⟩
      · unfold g_bd
        rw [r1, r2, r3, r4]
        exact hrow.1
      · unfold g_wt
        rw [r5, r6]
        exact ⟨hup.1, hup.2, Or.inl rfl⟩
      · refine Or.inl ⟨by rw [r6]; decide, ?_⟩
        rw [r7]
        exact f7
      · funext f
        rw [rows]
        simp [hj]
      · rw [rows]
        simp
  · split
    · rename_i hw h3
      have hd := hrow.dry (by rw [h3]; decide)
      have hdn := g_down kd s hkd hs25 (by rw [← ek, ← es]; exact hd.2.2)
      rw [← ek, ← es] at hdn
      generalize (if v_L ρ x 5 - 1 < 0 then 0 else v_L ρ x 5 - 1) = dn at hdn
      have e6 : v_L (v_sL ρ x 5 dn) x 6 = v_L ρ x 6 := v_L_nf (by decide)
      have e4 : v_L (v_sL ρ x 5 dn) x 4 = v_L ρ x 4 := v_L_nf (by decide)
      have e7 : v_L (v_sL ρ x 5 dn) x 7 = v_L ρ x 7 := v_L_nf (by decide)
      have e9 : v_L (v_sL ρ x 5 dn) x 9 = v_L ρ x 9 := v_L_nf (by decide)
      have e1 : v_L (v_sL ρ x 5 dn) x 1 = v_L ρ x 1 := v_L_nf (by decide)
      have e2 : v_L (v_sL ρ x 5 dn) x 2 = v_L ρ x 2 := v_L_nf (by decide)
      have e3 : v_L (v_sL ρ x 5 dn) x 3 = v_L ρ x 3 := v_L_nf (by decide)
      have e5 : v_L (v_sL ρ x 5 dn) x 5 = dn := v_L_eq
      refine ⟨h.but rfl rfl (fun i hi => ?_) (fun i hi => ?_), v_mv.one rfl rfl rfl (fun j hj => v_L_ne hj) (g_mv.of (by rw [h3]; decide) (by rw [h3]; decide) (by rw [e6, h3]; decide) (by rw [e6, h3]; decide) (by rw [e4]; exact Int32.and_self))⟩
      · by_cases e : i = x
        · subst e
          refine ⟨?_, ?_, ?_⟩
          · unfold g_bd
            rw [e1, e2, e3, e4]
            exact hrow.1
          · unfold g_wt
            rw [e5, e1]
            exact ⟨hdn.1, hdn.2.1, Or.inr hdn.2.2⟩
          · unfold g_pl
            rw [e6, e7, e9]
            exact hrow.2.2
        · rw [v_L_ne e]
          exact h.2.1 i hi
      · by_cases e : i = x
        · subst e
          unfold g_line
          rw [e6, e7, e9]
        · rw [v_L_ne e]
    · exact ⟨h, v_mv.rf⟩
theorem m_sks_st (m : Nat) : ∀ (k : Nat) (ρ : vR), v_inv ρ → k + m ≤ v_n ρ → v_inv (m_sks m k ρ) ∧ v_mv ρ (m_sks m k ρ) := by
  induction m with
  | zero => exact fun k ρ h _ => ⟨h, v_mv.rf⟩
  | succ m ih =>
    intro k ρ h hk
    obtain ⟨h1, h2⟩ := m_soak_st h (x := k) (by omega)
    obtain ⟨h3, h4⟩ := ih (k + 1) _ h1 (by rw [h2.1]; omega)
    exact ⟨h3, h2.tr h4⟩
/-- the drive from a reach -/
theorem m_drv_st (r : Nat) (hr : r < 6) (fl most : Int32) (xs : List Nat) : ∀ (ρ : vR) (gone : Nat) (came : Int32), v_inv ρ → xs.Nodup → (∀ i ∈ xs, i < v_n ρ ∧ v_L ρ i 6 = 1 ∧ v_L ρ i 7 = nI r) → v_inv (m_drv r fl most xs ρ gone came).1 ∧ v_mv ρ (m_drv r fl most xs ρ gone came).1 ∧ ∃ k, k ≤ xs.length ∧ (m_drv r fl most xs ρ gone came).2 = came + nI k := by
  induction xs with
  | nil =>
    intro ρ gone came h _ _
    refine ⟨h, v_mv.rf, 0, Nat.le_refl _, ?_⟩
    show came = came + nI 0
    rw [nI_0, Int32.add_zero]
  | cons i xs ih =>
    intro ρ gone came h hd hm
    obtain ⟨hi, h6, h7⟩ := hm i List.mem_cons_self
    rw [List.nodup_cons] at hd
    have hrow := h.2.1 i hi
    have hdry := hrow.dry (by rw [h6]; decide)
    have hoff := h.off hi (g_line1 h6 h7 hr)
    have n8 : ¬ 8 < v_L (v_sQ ρ r (m_rm (v_Q ρ r) i)) i 6 := by rw [show v_L (v_sQ ρ r (m_rm (v_Q ρ r) i)) i 6 = 1 from h6]; decide
    have n8' : ¬ v_L (v_sQ ρ r (m_rm (v_Q ρ r) i)) i 6 = 8 := by rw [show v_L (v_sQ ρ r (m_rm (v_Q ρ r) i)) i 6 = 1 from h6]; decide
    have keep : ∀ ρ2 : vR, (∀ j, j ≠ i → v_L ρ2 j = v_L (v_sQ ρ r (m_rm (v_Q ρ r) i)) j) → v_n ρ2 = v_n ρ → ∀ j ∈ xs, j < v_n ρ2 ∧ v_L ρ2 j 6 = 1 ∧ v_L ρ2 j 7 = nI r := fun ρ2 e en j hj => by
      have hne : j ≠ i := fun z => hd.1 (z ▸ hj)
      rw [e j hne, en]
      exact hm j (List.mem_cons_of_mem _ hj)
    unfold m_drv
    split
    · split
      · obtain ⟨a, b, k, hk, e⟩ := ih ρ gone came h hd.2 (fun j hj => hm j (List.mem_cons_of_mem _ hj))
        exact ⟨a, b, k, by rw [List.length_cons]; omega, e⟩
      · split
        · rename_i h5
          obtain ⟨s1, s2, -, -⟩ := m_recv_st (r := r + 1) hoff (by omega) hrow.1 hdry
          have mv := m_recv_mv (r := r + 1) hoff (by omega) hrow.1 hdry n8 n8'
          obtain ⟨a, b, k, hk, e⟩ := ih _ (gone + 1) came s1 hd.2 (keep _ s2 mv.1)
          exact ⟨a, ((v_mv.sQ _ _).tr mv).tr b, k, by rw [List.length_cons]; omega, e⟩
        · split
          · obtain ⟨s1, s2, -, -⟩ := m_strand_st hoff hrow.1 hdry
            have mv := m_strand_mv hoff hrow.1 hdry n8 n8'
            obtain ⟨a, b, k, hk, e⟩ := ih _ (gone + 1) came s1 hd.2 (keep _ s2 mv.1)
            exact ⟨a, ((v_mv.sQ _ _).tr mv).tr b, k, by rw [List.length_cons]; omega, e⟩
          · obtain ⟨s1, s2, -, -⟩ := m_hold1_st hoff hrow.1 hdry
            have mv := m_hold1_mv hoff hrow.1 hdry n8 n8'
            obtain ⟨a, b, k, hk, e⟩ := ih _ (gone + 1) (came + 1) s1 hd.2 (keep _ s2 mv.1)
            refine ⟨a, ((v_mv.sQ _ _).tr mv).tr b, k + 1, by rw [List.length_cons]; omega, e.trans ?_⟩
            rw [Int32.add_assoc, Int32.add_comm 1, nI_1]
    · refine ⟨h, v_mv.rf, 0, Nat.zero_le _, ?_⟩
      show came = came + nI 0
      rw [nI_0, Int32.add_zero]
theorem m_drive_st {ρ : vR} (h : v_inv ρ) {r : Nat} (hr : r < 6) : v_inv (m_drive ρ r).1 ∧ v_mv ρ (m_drive ρ r).1 ∧ ∃ k, k ≤ 40 ∧ (m_drive ρ r).2 = nI k := by
  obtain ⟨a, b, k, hk, e⟩ := m_drv_st r hr (v_R ρ r 4) (v_R ρ r 4 / 4) (v_Q ρ r) ρ 0 0 h (h.nodup (by omega)) (fun i hi => h.on1 hr hi)
  refine ⟨a, b, k, ?_, e.trans (Int32.zero_add _)⟩
  have := h.l40 (q := r) (by omega)
  have := h.1
  omega
theorem m_drs_st (j : Nat) : ∀ (ρ : vR) (c : Nat), j ≤ 6 → v_inv ρ → m_drOk j ρ ∧ v_inv (m_drs j ρ (nI c)).1 ∧ v_mv ρ (m_drs j ρ (nI c)).1 ∧ ∃ k, k ≤ c + 40 * j ∧ (m_drs j ρ (nI c)).2 = nI k := by
  induction j with
  | zero => exact fun ρ c _ h => ⟨trivial, h, v_mv.rf, c, Nat.le_refl _, rfl⟩
  | succ j ih =>
    intro ρ c hj h
    obtain ⟨a, b, k, hk, e⟩ := m_drive_st h (r := j) (by omega)
    have hnd := h.nodup (q := j) (by omega)
    obtain ⟨x1, x2, x3, k2, hk2, e2⟩ := ih (m_drive ρ j).1 (c + k) (by omega) a
    have es : m_drs (j + 1) ρ (nI c) = m_drs j (m_drive ρ j).1 (nI (c + k)) := by
      show m_drs j (m_drive ρ j).1 (nI c + (m_drive ρ j).2) = _
      rw [e, nI_add]
    rw [es]
    exact ⟨⟨hnd, x1⟩, x2, b.tr x3, k2, by omega, e2⟩
theorem m_bk_st {ρ : vR} (h : v_inv ρ) {k : Nat} (hk : k < 6) : v_inv (m_bk ρ k) ∧ v_mv ρ (m_bk ρ k) := by
  unfold m_bk
  split
  · exact ⟨(m_break_st h hk).1, (m_break_st h hk).2.1⟩
  · exact ⟨h, v_mv.rf⟩
theorem m_bks_st (m : Nat) : ∀ (k : Nat) (ρ : vR), k + m ≤ 6 → v_inv ρ → v_inv (m_bks m k ρ) ∧ v_mv ρ (m_bks m k ρ) := by
  induction m with
  | zero => exact fun k ρ _ h => ⟨h, v_mv.rf⟩
  | succ m ih =>
    intro k ρ hk h
    obtain ⟨h1, h2⟩ := m_bk_st h (k := k) (by omega)
    obtain ⟨h3, h4⟩ := ih (k + 1) _ (by omega) h1
    exact ⟨h3, h2.tr h4⟩
/-- the river but for its water and its day -/
def v_sm (ρ ρ' : vR) : Prop := v_n ρ' = v_n ρ ∧ v_L ρ' = v_L ρ ∧ v_Q ρ' = v_Q ρ
theorem v_inv.sm {ρ ρ' : vR} (h : v_inv ρ) (hs : v_sm ρ ρ') : v_inv ρ' := h.but hs.1 hs.2.2 (fun i hi => by rw [hs.2.1]; exact h.2.1 i hi) (fun i hi => by rw [hs.2.1])
theorem v_sm.sR {ρ : vR} (r f : Nat) (x : Int32) : v_sm ρ (v_sR ρ r f x) := ⟨rfl, rfl, rfl⟩
theorem v_sm.tr {ρ ρ' ρ'' : vR} (h : v_sm ρ ρ') (h' : v_sm ρ' ρ'') : v_sm ρ ρ'' := ⟨h'.1.trans h.1, h'.2.1.trans h.2.1, h'.2.2.trans h.2.2⟩
theorem m_mv_sm (ρ : vR) (k : Nat) : v_sm ρ (m_mv ρ k) := by
  unfold m_mv m_flow
  split
  · exact ⟨rfl, rfl, rfl⟩
  · exact ⟨rfl, rfl, rfl⟩
theorem m_move_sm (j : Nat) : ∀ ρ : vR, v_sm ρ (m_move j ρ) := by
  induction j with
  | zero => exact fun ρ => ⟨rfl, rfl, rfl⟩
  | succ j ih => exact fun ρ => (m_mv_sm ρ j).tr (ih _)
/-- the river at the end of a day -/
def m_wtr (ρ : vR) (melt : Int32) : vR := m_move 6 (v_sR (v_sN ρ (v_now ρ + 1)) 0 1 (v_R ρ 0 1 + melt))
theorem m_wtr_sm (ρ : vR) (melt : Int32) : v_sm ρ (m_wtr ρ melt) := v_sm.tr (ρ' := v_sR (v_sN ρ (v_now ρ + 1)) 0 1 (v_R ρ 0 1 + melt)) ⟨rfl, rfl, rfl⟩ (m_move_sm 6 _)
theorem m_day_st {ρ : vR} (h : v_inv ρ) (melt : Int32) : m_drOk 6 (m_dawn ρ melt) ∧ v_inv (m_day ρ melt).1 ∧ v_mv (m_wtr ρ melt) (m_day ρ melt).1 ∧ ∃ k, k ≤ 240 ∧ (m_day ρ melt).2 = nI k := by
  have hw := h.sm (m_wtr_sm ρ melt)
  obtain ⟨b1, b2⟩ := m_bks_st 6 0 (m_wtr ρ melt) (by decide) hw
  obtain ⟨d1, d2, d3, k, hk, e⟩ := m_drs_st 6 (m_bks 6 0 (m_wtr ρ melt)) 0 (Nat.le_refl _) b1
  obtain ⟨s1, s2⟩ := m_sks_st (v_n ρ) 0 (m_drs 6 (m_bks 6 0 (m_wtr ρ melt)) (nI 0)).1 d2 (by rw [d3.1, b2.1, (m_wtr_sm ρ melt).1]; omega)
  exact ⟨d1, s1, (b2.tr d3).tr s2, k, by omega, e⟩
theorem m_days_ok (d : Nat) (melt : Int32) : ∀ (ρ : vR), v_inv ρ → m_daysOk d melt ρ := by
  induction d with
  | zero => exact fun ρ _ => trivial
  | succ d ih =>
    intro ρ h
    obtain ⟨a, b, -⟩ := m_day_st h melt
    exact ⟨a, ih _ b⟩
theorem m_dig_ok {ρ : vR} (h : v_inv ρ) : m_digOk ρ := ⟨m_days_ok 20 20 ρ h, m_days_ok 6 20 ρ h, fun g _ => m_days_ok 4 10 _ (h.sm (v_sm.sR 5 2 (nI g)))⟩
