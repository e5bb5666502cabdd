/-! ===== the system grows: a log, an order, a raft ===== -/
section WGROW
variable {σ σ' : bS} {b : Nat} {E lg lg' og rg : Nat → Nat} {ω : wS}
theorem w_rep.top_lt (h : w_rep σ b E lg lg' og rg ω) : b + 100 ≤ z_z σ := by
  have := (h.1.2.1.2.2 3 (by decide)).2.1
  have := h.env.lt this (by decide)
  omega
theorem w_rep.rest_ex {P : Nat → Prop} (h : w_rep σ b E lg lg' og rg ω) (hx : v_ex P (z_z σ) σ σ') (hP : ∀ u, P u → u = b + 94 ∨ u = b + 95 ∨ (z_t σ u = 26 ∧ (u = E 2 ∨ u = E 3))) : v_rep σ' (b + 1) (E 0) lg (w_ρ ω) ∧ ∃ ρ', v_rep σ' (b + 47) (E 1) lg' ρ' ∧ v_n ρ' ≤ v_n (w_ρ ω) ∧ w_lgs b (v_n (w_ρ ω)) (v_n ρ') lg lg' := by
  obtain ⟨hs, hr, ⟨ρ', hr', hn', hL⟩, hE, he, h0⟩ := h
  have fix : ∀ u, b < u → u < b + 93 → ¬ P u := fun u u1 u2 hp => by
    rcases hP u hp with z | z | ⟨z1, z | z⟩
    · omega
    · omega
    · rcases hE.1 2 (by decide) with y | y <;> omega
    · rcases hE.1 3 (by decide) with y | y <;> omega
  have lgs : ∀ u, z_t σ u = 2 → b + 100 ≤ u → ¬ P u := fun u u1 u2 hp => by
    rcases hP u hp with z | z | ⟨z1, -⟩
    · omega
    · omega
    · rw [u1] at z1; exact absurd z1 (by decide)
  have eds : ∀ i, i < 2 → ¬ P (E i) := fun i hi hp => by
    rcases hP _ hp with z | z | ⟨z1, z | z⟩
    · rcases hE.1 i (by omega) with y | y <;> omega
    · rcases hE.1 i (by omega) with y | y <;> omega
    · exact hE.2 i 2 (by omega) (by decide) (by omega) z1 z
    · exact hE.2 i 3 (by omega) (by decide) (by omega) z1 z
  exact ⟨hr.ex he hx (fun x x1 x2 => fix x (by omega) (by omega)) (fun i hi => lgs _ (hr.log hi).1 (hL.1 i hi)) (eds 0 (by decide)), ρ', hr'.ex he hx (fun x x1 x2 => fix x (by omega) (by omega)) (fun i hi => lgs _ (hr'.log hi).1 (hL.2.1 i hi)) (eds 1 (by decide)), hn', hL⟩
/-- cells that belong to nobody come -/
theorem w_rep.no (h : w_rep σ b E lg lg' og rg ω) (hx : v_ex v_no (z_z σ) σ σ') (henv : v_env σ') : w_rep σ' b E lg lg' og rg ω := by
  obtain ⟨h1, h2⟩ := h.rest_ex hx (fun u hu => hu.elim)
  obtain ⟨hs, hr, -, hE, he, h0⟩ := h
  exact ⟨hs.ex hE he hx (fun u hu => hu.elim), h1, h2, hE.ex he hx, henv, h0.ex he henv hx⟩
theorem w_eds.upd {P : Nat → Prop} (h : w_eds σ b E) (he : v_env σ) (hx : v_ex P (z_z σ) σ σ') {k ed' : Nat} (hk : k < 4) (hed : ed' = E k ∨ (z_z σ ≤ ed' ∧ z_t σ' ed' = 26)) (hz : b + 100 ≤ z_z σ) : w_eds σ' b (fun i => if i = k then ed' else E i) := by
  have h' := h.ex he hx
  have lt : ∀ i, i < 4 → E i < z_z σ := fun i hi => by
    rcases h.1 i hi with z | z
    · exact he.lt z.1 (by decide)
    · exact he.lt z.1 (by decide)
  rcases hed with rfl | ⟨h1, h2⟩
  · have e : (fun i => if i = k then E k else E i) = E := by
      funext i
      by_cases c : i = k
      · rw [if_pos c, c]
      · rw [if_neg c]
    rw [e]
    exact h'
  · refine ⟨fun i hi => ?_, fun i j hi hj hij h26 => ?_⟩
    · show (z_t σ' (if i = k then ed' else E i) = 32 ∧ (if i = k then ed' else E i) < b) ∨ (z_t σ' (if i = k then ed' else E i) = 26 ∧ b + 100 ≤ (if i = k then ed' else E i))
      by_cases c : i = k
      · rw [if_pos c]
        exact Or.inr ⟨h2, by omega⟩
      · rw [if_neg c]
        exact h'.1 i hi
    · have h26' : z_t σ' (if i = k then ed' else E i) = 26 := h26
      show (if i = k then ed' else E i) ≠ (if j = k then ed' else E j)
      by_cases c : i = k
      · rw [if_pos c, if_neg (by omega)]
        have := lt j hj
        omega
      · rw [if_neg c] at h26' ⊢
        by_cases c2 : j = k
        · rw [if_pos c2]
          have := lt i hi
          omega
        · rw [if_neg c2]
          exact h'.2 i j hi hj hij h26'
theorem v_al.k26 {L ed n : Nat} {f : Nat → Nat} (h : v_al σ L ed (n + 1) f) : z_t σ ed = 26 := by
  rcases h.2.2.2 with z | z
  · omega
  · exact z.1
/-- an order more -/
theorem w_rep.addO (h : w_rep σ b E lg lg' og rg ω) (hx : v_ex (fun y => y = b + 94 ∨ (y = E 2 ∧ z_t σ (E 2) = 26)) (z_z σ) σ σ') (henv : v_env σ') {ed' g : Nat} {G : Nat → Int32} (hal : v_al σ' (b + 94) ed' (w_no ω + 1) (fun i => if i = w_no ω then g else og i)) (hed : (ed' = E 2 ∧ z_t σ (E 2) = 26) ∨ z_z σ ≤ ed') (hg : z_t σ' g = 3 ∧ b + 100 ≤ g ∧ ∀ f, f < 4 → z_i σ' 2 f g = G f) (h6 : w_no ω < 6) :
    w_rep σ' b (fun i => if i = 2 then ed' else E i) lg lg' (fun i => if i = w_no ω then g else og i) rg (w_aO ω G) := by
  have hP : ∀ u, (u = b + 94 ∨ (u = E 2 ∧ z_t σ (E 2) = 26)) → u = b + 94 ∨ u = b + 95 ∨ (z_t σ u = 26 ∧ (u = E 2 ∨ u = E 3)) := by
    rintro u (rfl | ⟨rfl, z⟩)
    · exact Or.inl rfl
    · exact Or.inr (Or.inr ⟨z, Or.inl rfl⟩)
  have htop := h.top_lt
  obtain ⟨h1, h2⟩ := h.rest_ex hx hP
  obtain ⟨⟨⟨t1, t2, t3, t4, t5, t6, t7, t8⟩, ⟨o1, o2, o3⟩, ⟨p1, p2, p3⟩, ⟨q1, q2, q3⟩⟩, hr, -, hE, he, h0⟩ := h
  have np : ∀ u t, z_t σ u = t → t ≠ 9 → t ≠ 26 → ¬ (u = b + 94 ∨ (u = E 2 ∧ z_t σ (E 2) = 26)) := by
    rintro u t e n1 n2 (rfl | ⟨rfl, z⟩)
    · exact n1 (e.symm.trans p1.1)
    · exact n2 (e.symm.trans z)
  have lt : ∀ u t, z_t σ u = t → t ≠ 0 → u < z_z σ := fun u t e n => he.lt e n
  have hno : ∀ j, j < w_no ω → (fun i => if i = w_no ω then g else og i) j = og j := fun j hj => if_neg (by omega)
  refine ⟨⟨?_, ⟨?_, ?_, fun k hk => ?_⟩, ⟨hal, ?_, fun j hj => ?_⟩, ⟨?_, q2, fun j hj => ?_⟩⟩, h1, h2, hE.upd he hx (by decide) (hed.imp (fun z => z.1) (fun z => ⟨z, hal.k26⟩)) htop, henv, h0.ex he henv hx⟩
  · obtain ⟨a1, a2, a3, a4⟩ := hx.2 b (lt _ _ t1 (by decide))
    obtain ⟨b1, b2, b3⟩ := a4 (np b _ t1 (by decide) (by decide))
    exact ⟨a1.trans t1, (b2 _ _).trans t2, (b2 _ _).trans t3, (b2 _ _).trans t4, (b2 _ _).trans t5, (b2 _ _).trans t6, (b1 _ _).trans t7, (b1 _ _).trans t8⟩
  · exact ((hx.2 _ (lt _ _ o1 (by decide))).1).trans o1
  · exact ((hx.2 _ (lt _ _ o1 (by decide))).2.1).trans o2
  · obtain ⟨k1, k2, k3⟩ := o3 k hk
    obtain ⟨a1, a2, a3, a4⟩ := hx.2 _ (lt _ _ o1 (by decide))
    obtain ⟨c1, c2, c3, c4⟩ := hx.2 _ (lt _ _ k2 (by decide))
    have d := a4 (np _ _ o1 (by decide) (by decide))
    have e := c4 (np _ _ k2 (by decide) (by decide))
    exact ⟨by rw [d.2.2]; exact k1, c1.trans k2, fun f hf4 => (e.1 _ _).trans (k3 f hf4)⟩
  · show w_no ω + 1 ≤ 6
    omega
  · have hj' : j < w_no ω + 1 := hj
    by_cases e : j = w_no ω
    · subst e
      have e1 : (fun i => if i = w_no ω then g else og i) (w_no ω) = g := if_pos rfl
      rw [e1]
      refine ⟨hg.1, hg.2.1, fun f hf => ?_⟩
      show _ = (if w_no ω = w_no ω then G f else _)
      rw [if_pos rfl]
      exact hg.2.2 f hf
    · obtain ⟨k1, k2, k3⟩ := p3 j (by omega)
      obtain ⟨c1, c2, c3, c4⟩ := hx.2 _ (lt _ _ k1 (by decide))
      have e2 := c4 (np _ _ k1 (by decide) (by decide))
      rw [hno j (by omega)]
      refine ⟨c1.trans k1, k2, fun f hf => ?_⟩
      show _ = (if j = w_no ω then G f else w_P ω j f)
      rw [if_neg e]
      exact (e2.1 _ _).trans (k3 f hf)
  · refine q1.ex he hx (fun z => ?_) (fun h26 z => ?_)
    · rcases z with z | ⟨z, z2⟩
      · omega
      · rw [← z, q1.1] at z2; exact absurd z2 (by decide)
    · rcases z with z | ⟨z, z2⟩
      · rcases hE.1 3 (by decide) with y | y <;> omega
      · exact hE.2 3 2 (by decide) (by decide) (by decide) h26 z
  · obtain ⟨k1, k2, k3, k4, k5, k6⟩ := q3 j hj
    obtain ⟨c1, c2, c3, c4⟩ := hx.2 _ (lt _ _ k1 (by decide))
    have e2 := c4 (np _ _ k1 (by decide) (by decide))
    have k6' : w_W ω j < w_no ω := k6
    refine ⟨c1.trans k1, k2, (e2.1 _ _).trans k3, ?_, (e2.1 _ _).trans k5, ?_⟩
    · show z_r σ' 4 1 (rg j) = some ((fun i => if i = w_no ω then g else og i) (w_W ω j))
      rw [hno _ k6']
      exact (e2.2.1 _ _).trans k4
    · show w_W ω j < w_no ω + 1
      omega
/-- a raft more -/
theorem w_rep.addF (h : w_rep σ b E lg lg' og rg ω) (hx : v_ex (fun y => y = b + 95 ∨ (y = E 3 ∧ z_t σ (E 3) = 26)) (z_z σ) σ σ') (henv : v_env σ') {ed' g w : Nat} {o d : Int32} (hal : v_al σ' (b + 95) ed' (w_nr ω + 1) (fun i => if i = w_nr ω then g else rg i)) (hed : (ed' = E 3 ∧ z_t σ (E 3) = 26) ∨ z_z σ ≤ ed') (hg : z_t σ' g = 5 ∧ b + 100 ≤ g ∧ z_i σ' 4 0 g = o ∧ z_r σ' 4 1 g = some (og w) ∧ z_i σ' 4 2 g = d) (hw : w < w_no ω) (h6 : w_nr ω < 78) :
    w_rep σ' b (fun i => if i = 3 then ed' else E i) lg lg' og (fun i => if i = w_nr ω then g else rg i) (w_aF ω o d w) := by
  have hP : ∀ u, (u = b + 95 ∨ (u = E 3 ∧ z_t σ (E 3) = 26)) → u = b + 94 ∨ u = b + 95 ∨ (z_t σ u = 26 ∧ (u = E 2 ∨ u = E 3)) := by
    rintro u (rfl | ⟨rfl, z⟩)
    · exact Or.inr (Or.inl rfl)
    · exact Or.inr (Or.inr ⟨z, Or.inr rfl⟩)
  have htop := h.top_lt
  obtain ⟨h1, h2⟩ := h.rest_ex hx hP
  obtain ⟨⟨⟨t1, t2, t3, t4, t5, t6, t7, t8⟩, ⟨o1, o2, o3⟩, ⟨p1, p2, p3⟩, ⟨q1, q2, q3⟩⟩, hr, -, hE, he, h0⟩ := h
  have np : ∀ u t, z_t σ u = t → t ≠ 9 → t ≠ 26 → ¬ (u = b + 95 ∨ (u = E 3 ∧ z_t σ (E 3) = 26)) := by
    rintro u t e n1 n2 (rfl | ⟨rfl, z⟩)
    · exact n1 (e.symm.trans q1.1)
    · exact n2 (e.symm.trans z)
  have lt : ∀ u t, z_t σ u = t → t ≠ 0 → u < z_z σ := fun u t e n => he.lt e n
  refine ⟨⟨?_, ⟨?_, ?_, fun k hk => ?_⟩, ⟨?_, p2, fun j hj => ?_⟩, ⟨hal, ?_, fun j hj => ?_⟩⟩, h1, h2, hE.upd he hx (by decide) (hed.imp (fun z => z.1) (fun z => ⟨z, hal.k26⟩)) htop, henv, h0.ex he henv hx⟩
  · obtain ⟨a1, a2, a3, a4⟩ := hx.2 b (lt _ _ t1 (by decide))
    obtain ⟨b1, b2, b3⟩ := a4 (np b _ t1 (by decide) (by decide))
    exact ⟨a1.trans t1, (b2 _ _).trans t2, (b2 _ _).trans t3, (b2 _ _).trans t4, (b2 _ _).trans t5, (b2 _ _).trans t6, (b1 _ _).trans t7, (b1 _ _).trans t8⟩
  · exact ((hx.2 _ (lt _ _ o1 (by decide))).1).trans o1
  · exact ((hx.2 _ (lt _ _ o1 (by decide))).2.1).trans o2
  · obtain ⟨k1, k2, k3⟩ := o3 k hk
    obtain ⟨a1, a2, a3, a4⟩ := hx.2 _ (lt _ _ o1 (by decide))
    obtain ⟨c1, c2, c3, c4⟩ := hx.2 _ (lt _ _ k2 (by decide))
    have d := a4 (np _ _ o1 (by decide) (by decide))
    have e := c4 (np _ _ k2 (by decide) (by decide))
    exact ⟨by rw [d.2.2]; exact k1, c1.trans k2, fun f hf4 => (e.1 _ _).trans (k3 f hf4)⟩
  · refine p1.ex he hx (fun z => ?_) (fun h26 z => ?_)
    · rcases z with z | ⟨z, z2⟩
      · omega
      · rw [← z, p1.1] at z2; exact absurd z2 (by decide)
    · rcases z with z | ⟨z, z2⟩
      · rcases hE.1 2 (by decide) with y | y <;> omega
      · exact hE.2 2 3 (by decide) (by decide) (by decide) h26 z
  · obtain ⟨k1, k2, k3⟩ := p3 j hj
    obtain ⟨c1, c2, c3, c4⟩ := hx.2 _ (lt _ _ k1 (by decide))
    have e2 := c4 (np _ _ k1 (by decide) (by decide))
    exact ⟨c1.trans k1, k2, fun f hf => (e2.1 _ _).trans (k3 f hf)⟩
  · show w_nr ω + 1 ≤ 78
    omega
  · have hj' : j < w_nr ω + 1 := hj
    show z_t σ' ((fun i => if i = w_nr ω then g else rg i) j) = 5 ∧ b + 100 ≤ (fun i => if i = w_nr ω then g else rg i) j ∧ z_i σ' 4 0 ((fun i => if i = w_nr ω then g else rg i) j) = (if j = w_nr ω then (if 0 = 0 then o else d) else w_F ω j 0) ∧ z_r σ' 4 1 ((fun i => if i = w_nr ω then g else rg i) j) = some (og (if j = w_nr ω then w else w_W ω j)) ∧ z_i σ' 4 2 ((fun i => if i = w_nr ω then g else rg i) j) = (if j = w_nr ω then (if 2 = 0 then o else d) else w_F ω j 2) ∧ (if j = w_nr ω then w else w_W ω j) < w_no ω
    by_cases e : j = w_nr ω
    · subst e
      have e1 : (fun i => if i = w_nr ω then g else rg i) (w_nr ω) = g := if_pos rfl
      rw [e1, if_pos rfl, if_pos rfl, if_pos rfl, if_pos rfl, if_neg (by decide)]
      exact ⟨hg.1, hg.2.1, hg.2.2.1, hg.2.2.2.1, hg.2.2.2.2, hw⟩
    · obtain ⟨k1, k2, k3, k4, k5, k6⟩ := q3 j (by omega)
      obtain ⟨c1, c2, c3, c4⟩ := hx.2 _ (lt _ _ k1 (by decide))
      have e2 := c4 (np _ _ k1 (by decide) (by decide))
      have e1 : (fun i => if i = w_nr ω then g else rg i) j = rg j := if_neg e
      rw [e1, if_neg e, if_neg e, if_neg e]
      exact ⟨c1.trans k1, k2, (e2.1 _ _).trans k3, (e2.2.1 _ _).trans k4, (e2.1 _ _).trans k5, k6⟩
/-- a log more in the river -/
theorem w_rep.addL (h : w_rep σ b E lg lg' og rg ω) (hx : v_ex (fun y => y = b + 1 + 1 ∨ (y = E 0 ∧ z_t σ (E 0) = 26)) (z_z σ) σ σ') (henv : v_env σ') {ed' g : Nat} {F : Nat → Int32} (hal : v_al σ' (b + 1 + 1) ed' (v_n (w_ρ ω) + 1) (fun i => if i = v_n (w_ρ ω) then g else lg i)) (hed : (ed' = E 0 ∧ z_t σ (E 0) = 26) ∨ z_z σ ≤ ed') (hg : v_log σ' g (v_n (w_ρ ω)) F) (hgb : b + 100 ≤ g) (hne : ∀ i, i < v_n (w_ρ ω) → lg i ≠ g) (hne' : ∀ u, z_t σ u = 2 → (∃ ρ' j, v_rep σ (b + 47) (E 1) lg' ρ' ∧ j < v_n ρ' ∧ u = lg' j) → u ≠ g) (h40 : v_n (w_ρ ω) < 40) :
    w_rep σ' b (fun i => if i = 0 then ed' else E i) (fun i => if i = v_n (w_ρ ω) then g else lg i) lg' og rg (w_sV ω (v_grow (w_ρ ω) F)) := by
  have htop := h.top_lt
  have hP : ∀ u, (u = b + 1 + 1 ∨ (u = E 0 ∧ z_t σ (E 0) = 26)) → (b < u ∧ u < b + 93) ∨ z_t σ u = 2 ∨ (z_t σ u = 26 ∧ (u = E 0 ∨ u = E 1)) := by
    rintro u (rfl | ⟨rfl, z⟩)
    · exact Or.inl (by omega)
    · exact Or.inr (Or.inr ⟨z, Or.inl rfl⟩)
  obtain ⟨hs, hr, ⟨ρ', hr', hn', hL⟩, hE, he, h0⟩ := h
  have hP9 : ∀ y, (y = b + 1 + 1 ∨ (y = E 0 ∧ z_t σ (E 0) = 26)) → z_t σ y = 9 ∨ z_t σ y = 26 := by
    rintro u (rfl | ⟨rfl, z⟩)
    · exact Or.inl hr.2.1.1
    · exact Or.inr z
  have hr2 := hr.grow he hx hP9 hal hg h40 hne
  refine ⟨hs.ex hE he hx hP, hr2, ⟨ρ', hr'.ex he hx (fun x x1 x2 z => ?_) (fun i hi z => ?_) (fun z => ?_), ?_, fun i hi => ?_, fun i hi => hL.2.1 i hi, fun i j hi hj => ?_⟩, hE.upd he hx (by decide) (hed.imp (fun z => z.1) (fun z => ⟨z, hal.k26⟩)) htop, henv, h0.ex he henv hx⟩
  · rcases z with z | ⟨z, z2⟩
    · omega
    · rcases hE.1 0 (by decide) with y | y <;> omega
  · have := hL.2.1 i hi
    rcases z with z | ⟨z, z2⟩
    · omega
    · have h2 := (hr'.log hi).1
      rw [z, z2] at h2
      exact absurd h2 (by decide)
  · rcases z with z | ⟨z, z2⟩
    · rcases hE.1 1 (by decide) with y | y <;> omega
    · exact hE.2 1 0 (by decide) (by decide) (by decide) (by rw [z]; exact z2) z
  · show v_n ρ' ≤ v_n (w_ρ ω) + 1
    omega
  · have hi' : i < v_n (w_ρ ω) + 1 := hi
    show b + 100 ≤ (if i = v_n (w_ρ ω) then g else lg i)
    by_cases e : i = v_n (w_ρ ω)
    · rw [if_pos e]; exact hgb
    · rw [if_neg e]; exact hL.1 i (by omega)
  · have hi' : i < v_n (w_ρ ω) + 1 := hi
    show (if i = v_n (w_ρ ω) then g else lg i) ≠ lg' j
    by_cases e : i = v_n (w_ρ ω)
    · rw [if_pos e]; exact (hne' _ (hr'.log hj).1 ⟨ρ', j, hr', hj, rfl⟩).symm
    · rw [if_neg e]; exact hL.2.2 i j (by omega) hj
end WGROW
