/-! ===== the whole system: river, owners, orders, rafts, crew, costs ===== -/
abbrev wS : Type := vR × (Nat → Nat → Int32) × Nat × (Nat → Nat → Int32) × Nat × (Nat → Nat → Int32) × (Nat → Nat) × Int32 × Int32
def w_ρ (ω : wS) : vR := ω.1
def w_O (ω : wS) : Nat → Nat → Int32 := ω.2.1
def w_no (ω : wS) : Nat := ω.2.2.1
def w_P (ω : wS) : Nat → Nat → Int32 := ω.2.2.2.1
def w_nr (ω : wS) : Nat := ω.2.2.2.2.1
def w_F (ω : wS) : Nat → Nat → Int32 := ω.2.2.2.2.2.1
def w_W (ω : wS) : Nat → Nat := ω.2.2.2.2.2.2.1
def w_crew (ω : wS) : Int32 := ω.2.2.2.2.2.2.2.1
def w_costs (ω : wS) : Int32 := ω.2.2.2.2.2.2.2.2
def w_sV (ω : wS) (ρ : vR) : wS := (ρ, w_O ω, w_no ω, w_P ω, w_nr ω, w_F ω, w_W ω, w_crew ω, w_costs ω)
def w_sO (ω : wS) (k f : Nat) (x : Int32) : wS := (w_ρ ω, fun k' f' => if k' = k ∧ f' = f then x else w_O ω k' f', w_no ω, w_P ω, w_nr ω, w_F ω, w_W ω, w_crew ω, w_costs ω)
def w_sC (ω : wS) (x : Int32) : wS := (w_ρ ω, w_O ω, w_no ω, w_P ω, w_nr ω, w_F ω, w_W ω, x, w_costs ω)
def w_sK (ω : wS) (x : Int32) : wS := (w_ρ ω, w_O ω, w_no ω, w_P ω, w_nr ω, w_F ω, w_W ω, w_crew ω, x)
def w_aO (ω : wS) (G : Nat → Int32) : wS := (w_ρ ω, w_O ω, w_no ω + 1, fun j f => if j = w_no ω then G f else w_P ω j f, w_nr ω, w_F ω, w_W ω, w_crew ω, w_costs ω)
def w_aF (ω : wS) (o d : Int32) (w : Nat) : wS := (w_ρ ω, w_O ω, w_no ω, w_P ω, w_nr ω + 1, fun j f => if j = w_nr ω then (if f = 0 then o else d) else w_F ω j f, fun j => if j = w_nr ω then w else w_W ω j, w_crew ω, w_costs ω)
theorem w_ρ_sV (ω : wS) (ρ : vR) : w_ρ (w_sV ω ρ) = ρ := (rfl)
theorem w_O_sV (ω : wS) (ρ : vR) (k' f' : Nat) : w_O (w_sV ω ρ) k' f' = w_O ω k' f' := (rfl)
theorem w_no_sV (ω : wS) (ρ : vR) : w_no (w_sV ω ρ) = w_no ω := (rfl)
theorem w_P_sV (ω : wS) (ρ : vR) (j' f' : Nat) : w_P (w_sV ω ρ) j' f' = w_P ω j' f' := (rfl)
theorem w_nr_sV (ω : wS) (ρ : vR) : w_nr (w_sV ω ρ) = w_nr ω := (rfl)
theorem w_F_sV (ω : wS) (ρ : vR) (j' f' : Nat) : w_F (w_sV ω ρ) j' f' = w_F ω j' f' := (rfl)
theorem w_W_sV (ω : wS) (ρ : vR) (j' : Nat) : w_W (w_sV ω ρ) j' = w_W ω j' := (rfl)
theorem w_crew_sV (ω : wS) (ρ : vR) : w_crew (w_sV ω ρ) = w_crew ω := (rfl)
theorem w_costs_sV (ω : wS) (ρ : vR) : w_costs (w_sV ω ρ) = w_costs ω := (rfl)
theorem w_ρ_sO (ω : wS) (k f : Nat) (x : Int32) : w_ρ (w_sO ω k f x) = w_ρ ω := (rfl)
theorem w_O_sO (ω : wS) (k f : Nat) (x : Int32) (k' f' : Nat) : w_O (w_sO ω k f x) k' f' = if k' = k ∧ f' = f then x else w_O ω k' f' := (rfl)
theorem w_no_sO (ω : wS) (k f : Nat) (x : Int32) : w_no (w_sO ω k f x) = w_no ω := (rfl)
theorem w_P_sO (ω : wS) (k f : Nat) (x : Int32) (j' f' : Nat) : w_P (w_sO ω k f x) j' f' = w_P ω j' f' := (rfl)
theorem w_nr_sO (ω : wS) (k f : Nat) (x : Int32) : w_nr (w_sO ω k f x) = w_nr ω := (rfl)
theorem w_F_sO (ω : wS) (k f : Nat) (x : Int32) (j' f' : Nat) : w_F (w_sO ω k f x) j' f' = w_F ω j' f' := (rfl)
theorem w_W_sO (ω : wS) (k f : Nat) (x : Int32) (j' : Nat) : w_W (w_sO ω k f x) j' = w_W ω j' := (rfl)
theorem w_crew_sO (ω : wS) (k f : Nat) (x : Int32) : w_crew (w_sO ω k f x) = w_crew ω := (rfl)
theorem w_costs_sO (ω : wS) (k f : Nat) (x : Int32) : w_costs (w_sO ω k f x) = w_costs ω := (rfl)
theorem w_ρ_sC (ω : wS) (x : Int32) : w_ρ (w_sC ω x) = w_ρ ω := (rfl)
theorem w_O_sC (ω : wS) (x : Int32) (k' f' : Nat) : w_O (w_sC ω x) k' f' = w_O ω k' f' := (rfl)
theorem w_no_sC (ω : wS) (x : Int32) : w_no (w_sC ω x) = w_no ω := (rfl)
theorem w_P_sC (ω : wS) (x : Int32) (j' f' : Nat) : w_P (w_sC ω x) j' f' = w_P ω j' f' := (rfl)
theorem w_nr_sC (ω : wS) (x : Int32) : w_nr (w_sC ω x) = w_nr ω := (rfl)
theorem w_F_sC (ω : wS) (x : Int32) (j' f' : Nat) : w_F (w_sC ω x) j' f' = w_F ω j' f' := (rfl)
theorem w_W_sC (ω : wS) (x : Int32) (j' : Nat) : w_W (w_sC ω x) j' = w_W ω j' := (rfl)
theorem w_crew_sC (ω : wS) (x : Int32) : w_crew (w_sC ω x) = x := (rfl)
theorem w_costs_sC (ω : wS) (x : Int32) : w_costs (w_sC ω x) = w_costs ω := (rfl)
theorem w_ρ_sK (ω : wS) (x : Int32) : w_ρ (w_sK ω x) = w_ρ ω := (rfl)
theorem w_O_sK (ω : wS) (x : Int32) (k' f' : Nat) : w_O (w_sK ω x) k' f' = w_O ω k' f' := (rfl)
theorem w_no_sK (ω : wS) (x : Int32) : w_no (w_sK ω x) = w_no ω := (rfl)
theorem w_P_sK (ω : wS) (x : Int32) (j' f' : Nat) : w_P (w_sK ω x) j' f' = w_P ω j' f' := (rfl)
theorem w_nr_sK (ω : wS) (x : Int32) : w_nr (w_sK ω x) = w_nr ω := (rfl)
theorem w_F_sK (ω : wS) (x : Int32) (j' f' : Nat) : w_F (w_sK ω x) j' f' = w_F ω j' f' := (rfl)
theorem w_W_sK (ω : wS) (x : Int32) (j' : Nat) : w_W (w_sK ω x) j' = w_W ω j' := (rfl)
theorem w_crew_sK (ω : wS) (x : Int32) : w_crew (w_sK ω x) = w_crew ω := (rfl)
theorem w_costs_sK (ω : wS) (x : Int32) : w_costs (w_sK ω x) = x := (rfl)
theorem w_ρ_aO (ω : wS) (G : Nat → Int32) : w_ρ (w_aO ω G) = w_ρ ω := (rfl)
theorem w_O_aO (ω : wS) (G : Nat → Int32) (k' f' : Nat) : w_O (w_aO ω G) k' f' = w_O ω k' f' := (rfl)
theorem w_no_aO (ω : wS) (G : Nat → Int32) : w_no (w_aO ω G) = w_no ω + 1 := (rfl)
theorem w_P_aO (ω : wS) (G : Nat → Int32) (j' f' : Nat) : w_P (w_aO ω G) j' f' = if j' = w_no ω then G f' else w_P ω j' f' := (rfl)
theorem w_nr_aO (ω : wS) (G : Nat → Int32) : w_nr (w_aO ω G) = w_nr ω := (rfl)
theorem w_F_aO (ω : wS) (G : Nat → Int32) (j' f' : Nat) : w_F (w_aO ω G) j' f' = w_F ω j' f' := (rfl)
theorem w_W_aO (ω : wS) (G : Nat → Int32) (j' : Nat) : w_W (w_aO ω G) j' = w_W ω j' := (rfl)
theorem w_crew_aO (ω : wS) (G : Nat → Int32) : w_crew (w_aO ω G) = w_crew ω := (rfl)
theorem w_costs_aO (ω : wS) (G : Nat → Int32) : w_costs (w_aO ω G) = w_costs ω := (rfl)
theorem w_ρ_aF (ω : wS) (o d : Int32) (w : Nat) : w_ρ (w_aF ω o d w) = w_ρ ω := (rfl)
theorem w_O_aF (ω : wS) (o d : Int32) (w : Nat) (k' f' : Nat) : w_O (w_aF ω o d w) k' f' = w_O ω k' f' := (rfl)
theorem w_no_aF (ω : wS) (o d : Int32) (w : Nat) : w_no (w_aF ω o d w) = w_no ω := (rfl)
theorem w_P_aF (ω : wS) (o d : Int32) (w : Nat) (j' f' : Nat) : w_P (w_aF ω o d w) j' f' = w_P ω j' f' := (rfl)
theorem w_nr_aF (ω : wS) (o d : Int32) (w : Nat) : w_nr (w_aF ω o d w) = w_nr ω + 1 := (rfl)
theorem w_F_aF (ω : wS) (o d : Int32) (w : Nat) (j' f' : Nat) : w_F (w_aF ω o d w) j' f' = if j' = w_nr ω then (if f' = 0 then o else d) else w_F ω j' f' := (rfl)
theorem w_W_aF (ω : wS) (o d : Int32) (w : Nat) (j' : Nat) : w_W (w_aF ω o d w) j' = if j' = w_nr ω then w else w_W ω j' := (rfl)
theorem w_crew_aF (ω : wS) (o d : Int32) (w : Nat) : w_crew (w_aF ω o d w) = w_crew ω := (rfl)
theorem w_costs_aF (ω : wS) (o d : Int32) (w : Nat) : w_costs (w_aF ω o d w) = w_costs ω := (rfl)

/-- what is not the rivers' -/
def w_top (σ : bS) (b : Nat) (cr co : Int32) : Prop := z_t σ b = 8 ∧ z_r σ 7 0 b = some (b + 1) ∧ z_r σ 7 1 b = some (b + 47) ∧ z_r σ 7 2 b = some (b + 93) ∧ z_r σ 7 3 b = some (b + 94) ∧ z_r σ 7 4 b = some (b + 95) ∧ z_i σ 7 5 b = cr ∧ z_i σ 7 6 b = co
def w_own (σ : bS) (b : Nat) (O : Nat → Nat → Int32) : Prop := z_t σ (b + 93) = 25 ∧ z_n σ (b + 93) = 4 ∧ ∀ k, k < 4 → z_q σ (b + 93) k = some (b + 96 + k) ∧ z_t σ (b + 96 + k) = 4 ∧ ∀ f, f < 4 → z_i σ 3 f (b + 96 + k) = O k f
def w_ord (σ : bS) (b ed n : Nat) (og : Nat → Nat) (P : Nat → Nat → Int32) : Prop := v_al σ (b + 94) ed n og ∧ n ≤ 6 ∧ ∀ j, j < n → z_t σ (og j) = 3 ∧ b + 100 ≤ og j ∧ ∀ f, f < 4 → z_i σ 2 f (og j) = P j f
def w_raf (σ : bS) (b ed n : Nat) (rg og : Nat → Nat) (F : Nat → Nat → Int32) (W : Nat → Nat) (no : Nat) : Prop := v_al σ (b + 95) ed n rg ∧ n ≤ 78 ∧ ∀ j, j < n → z_t σ (rg j) = 5 ∧ b + 100 ≤ rg j ∧ z_i σ 4 0 (rg j) = F j 0 ∧ z_r σ 4 1 (rg j) = some (og (W j)) ∧ z_i σ 4 2 (rg j) = F j 2 ∧ W j < no
/-- the lists' rows: apart, none among the fixed cells -/
def w_eds (σ : bS) (b : Nat) (E : Nat → Nat) : Prop := (∀ i, i < 4 → (z_t σ (E i) = 32 ∧ E i < b) ∨ (z_t σ (E i) = 26 ∧ b + 100 ≤ E i)) ∧ ∀ i j, i < 4 → j < 4 → i ≠ j → z_t σ (E i) = 26 → E i ≠ E j
def w_side (σ : bS) (b : Nat) (E og rg : Nat → Nat) (ω : wS) : Prop := w_top σ b (w_crew ω) (w_costs ω) ∧ w_own σ b (w_O ω) ∧ w_ord σ b (E 2) (w_no ω) og (w_P ω) ∧ w_raf σ b (E 3) (w_nr ω) rg og (w_F ω) (w_W ω) (w_no ω)
/-- the logs of both rivers: apart, none among the fixed cells -/
def w_lgs (b n n' : Nat) (lg lg' : Nat → Nat) : Prop := (∀ i, i < n → b + 100 ≤ lg i) ∧ (∀ i, i < n' → b + 100 ≤ lg' i) ∧ ∀ i j, i < n → j < n' → lg i ≠ lg' j
def w_rep (σ : bS) (b : Nat) (E lg lg' og rg : Nat → Nat) (ω : wS) : Prop := w_side σ b E og rg ω ∧ v_rep σ (b + 1) (E 0) lg (w_ρ ω) ∧ (∃ ρ', v_rep σ (b + 47) (E 1) lg' ρ' ∧ v_n ρ' ≤ v_n (w_ρ ω) ∧ w_lgs b (v_n (w_ρ ω)) (v_n ρ') lg lg') ∧ w_eds σ b E ∧ v_env σ ∧ v_e0 σ
def w_ok (σ : bS) (b : Nat) (ω : wS) : Prop := ∃ E lg lg' og rg : Nat → Nat, w_rep σ b E lg lg' og rg ω
/-- old cells keep kind, length and ints of rows -/
def w_kp (σ σ' : bS) : Prop := z_z σ ≤ z_z σ' ∧ ∀ y, y < z_z σ → z_t σ' y = z_t σ y ∧ z_n σ' y = z_n σ y ∧ z_a σ' y = z_a σ y
theorem w_kp.rf {σ : bS} : w_kp σ σ := ⟨Nat.le_refl _, fun _ _ => ⟨rfl, rfl, rfl⟩⟩
theorem w_kp.tr {σ σ' σ'' : bS} (h : w_kp σ σ') (h' : w_kp σ' σ'') : w_kp σ σ'' := ⟨Nat.le_trans h.1 h'.1, fun y hy => by
  obtain ⟨a1, a2, a3⟩ := h.2 y hy
  obtain ⟨b1, b2, b3⟩ := h'.2 y (Nat.lt_of_lt_of_le hy h.1)
  exact ⟨b1.trans a1, b2.trans a2, b3.trans a3⟩⟩
theorem v_ex.kp {P : Nat → Prop} {σ σ' : bS} (h : v_ex P (z_z σ) σ σ') : w_kp σ σ' := ⟨h.1, fun y hy => by
  obtain ⟨a1, a2, a3, -⟩ := h.2 y hy
  exact ⟨a1, a2, a3⟩⟩
theorem v_fr.kp {P : Nat → Prop} {σ σ' : bS} (h : v_fr P σ σ') : w_kp σ σ' := (v_ex.of_fr h).kp
theorem v_al.ex {P : Nat → Prop} {σ σ' : bS} {L ed n : Nat} {lg : Nat → Nat} (h : v_al σ L ed n lg) (he : v_env σ) (hf : v_ex P (z_z σ) σ σ') (h1 : ¬ P L) (h2 : z_t σ ed = 26 → ¬ P ed) : v_al σ' L ed n lg := by
  obtain ⟨l1, l2, l3, l4⟩ := h
  obtain ⟨a1, a2, a3, a4⟩ := hf.2 L (he.lt l1 (by decide))
  obtain ⟨b1, b2, b3⟩ := a4 h1
  refine ⟨a1.trans l1, (b1 8 2).trans l2, (b2 8 1).trans l3, ?_⟩
  rcases l4 with ⟨m1, m2⟩ | ⟨m1, m2, m3, m4, m5⟩
  · exact Or.inl ⟨((hf.2 ed (he.lt m1 (by decide))).1).trans m1, m2⟩
  · obtain ⟨c1, c2, c3, c4⟩ := hf.2 ed (he.lt m1 (by decide))
    obtain ⟨d1, d2, d3⟩ := c4 (h2 m1)
    exact Or.inr ⟨c1.trans m1, by rw [c2]; exact m2, by rw [c2]; exact m3, by rw [c2]; exact m4, fun i hi => by rw [d3]; exact m5 i hi⟩
theorem w_eds.ex {P : Nat → Prop} {σ σ' : bS} {b : Nat} {E : Nat → Nat} (h : w_eds σ b E) (he : v_env σ) (hf : v_ex P (z_z σ) σ σ') : w_eds σ' b E := by
  have hz : ∀ i, i < 4 → z_t σ' (E i) = z_t σ (E i) := fun i hi => by
    rcases h.1 i hi with z | z
    · exact (hf.2 _ (he.lt z.1 (by decide))).1
    · exact (hf.2 _ (he.lt z.1 (by decide))).1
  exact ⟨fun i hi => by rw [hz i hi]; exact h.1 i hi, fun i j hi hj hij => by rw [hz i hi]; exact h.2 i j hi hj hij⟩
theorem w_side.ex {P : Nat → Prop} {σ σ' : bS} {b : Nat} {E og rg : Nat → Nat} {ω : wS} (h : w_side σ b E og rg ω) (hE : w_eds σ b E) (he : v_env σ) (hf : v_ex P (z_z σ) σ σ') (hP : ∀ u, P u → (b < u ∧ u < b + 93) ∨ z_t σ u = 2 ∨ (z_t σ u = 26 ∧ (u = E 0 ∨ u = E 1))) : w_side σ' b E og rg ω := by
  obtain ⟨⟨t1, t2, t3, t4, t5, t6, t7, t8⟩, ⟨o1, o2, o3⟩, ⟨p1, p2, p3⟩, ⟨q1, q2, q3⟩⟩ := h
  have np : ∀ u t, z_t σ u = t → t ≠ 2 → t ≠ 26 → (u ≤ b ∨ b + 93 ≤ u) → ¬ P u := fun u t e h1 h2 h3 hp => by
    rcases hP u hp with z | z | z
    · omega
    · exact h1 (e.symm.trans z)
    · exact h2 (e.symm.trans z.1)
  have ned : ∀ i, i < 4 → 2 ≤ i → z_t σ (E i) = 26 → ¬ P (E i) := fun i hi h2 h26 hp => by
    rcases hP _ hp with z | z | ⟨-, z | z⟩
    · rcases hE.1 i hi with y | y
      · omega
      · omega
    · rw [h26] at z; exact absurd z (by decide)
    · exact hE.2 i 0 hi (by decide) (by omega) h26 z
    · exact hE.2 i 1 hi (by decide) (by omega) h26 z
  have lt : ∀ u t, z_t σ u = t → t ≠ 0 → u < z_z σ := fun u t e h0 => he.lt e h0
  refine ⟨?_, ⟨?_, ?_, fun k hk => ?_⟩, ⟨?_, p2, fun j hj => ?_⟩, ⟨?_, q2, fun j hj => ?_⟩⟩
  · obtain ⟨a1, a2, a3, a4⟩ := hf.2 b (lt _ _ t1 (by decide))
    obtain ⟨b1, b2, b3⟩ := a4 (np b _ t1 (by decide) (by decide) (Or.inl (Nat.le_refl _)))
    exact ⟨a1.trans t1, (b2 _ _).trans t2, (b2 _ _).trans t3, (b2 _ _).trans t4, (b2 _ _).trans t5, (b2 _ _).trans t6, (b1 _ _).trans t7, (b1 _ _).trans t8⟩
  · exact ((hf.2 _ (lt _ _ o1 (by decide))).1).trans o1
  · exact ((hf.2 _ (lt _ _ o1 (by decide))).2.1).trans o2
  · obtain ⟨k1, k2, k3⟩ := o3 k hk
    obtain ⟨a1, a2, a3, a4⟩ := hf.2 _ (lt _ _ o1 (by decide))
    obtain ⟨c1, c2, c3, c4⟩ := hf.2 _ (lt _ _ k2 (by decide))
    have d := a4 (np _ _ o1 (by decide) (by decide) (Or.inr (by omega)))
    have e := c4 (np _ _ k2 (by decide) (by decide) (Or.inr (by omega)))
    exact ⟨by rw [d.2.2]; exact k1, c1.trans k2, fun f hf4 => (e.1 _ _).trans (k3 f hf4)⟩
  · exact p1.ex he hf (np _ _ p1.1 (by decide) (by decide) (Or.inr (by omega))) (ned 2 (by decide) (by decide))
  · obtain ⟨k1, k2, k3⟩ := p3 j hj
    obtain ⟨c1, c2, c3, c4⟩ := hf.2 _ (lt _ _ k1 (by decide))
    have e := c4 (np _ _ k1 (by decide) (by decide) (Or.inr (by omega)))
    exact ⟨c1.trans k1, k2, fun f hf4 => (e.1 _ _).trans (k3 f hf4)⟩
  · exact q1.ex he hf (np _ _ q1.1 (by decide) (by decide) (Or.inr (by omega))) (ned 3 (by decide) (by decide))
  · obtain ⟨k1, k2, k3, k4, k5, k6⟩ := q3 j hj
    obtain ⟨c1, c2, c3, c4⟩ := hf.2 _ (lt _ _ k1 (by decide))
    have e := c4 (np _ _ k1 (by decide) (by decide) (Or.inr (by omega)))
    exact ⟨c1.trans k1, k2, (e.1 _ _).trans k3, (e.2.1 _ _).trans k4, (e.1 _ _).trans k5, k6⟩
section WREP
variable {σ σ' : bS} {b : Nat} {E lg lg' og rg : Nat → Nat} {ω : wS}
theorem w_rep.riv (h : w_rep σ b E lg lg' og rg ω) : v_rep σ (b + 1) (E 0) lg (w_ρ ω) := h.2.1
theorem w_rep.env (h : w_rep σ b E lg lg' og rg ω) : v_env σ := h.2.2.2.2.1
/-- the rivers lie apart -/
theorem w_apart {ρ ρ' : vR} (hL : w_lgs b (v_n ρ) (v_n ρ') lg lg') (hE : w_eds σ b E) (h : v_rep σ (b + 1) (E 0) lg ρ) (h' : v_rep σ (b + 47) (E 1) lg' ρ') : v_apart (b + 1) lg (v_n ρ) (b + 47) (E 1) lg' (v_n ρ') ∧ v_apart (b + 47) lg' (v_n ρ') (b + 1) (E 0) lg (v_n ρ) := by
  have ned : ∀ i x, i < 4 → z_t σ x = 2 → E i ≠ x := fun i x hi hx e => by
    rcases hE.1 i hi with z | z
    · rw [e, hx] at z; exact absurd z.1 (by decide)
    · rw [e, hx] at z; exact absurd z.1 (by decide)
  refine ⟨⟨fun x x1 x2 hp => ?_, fun i hi hp => ?_, fun hp => ?_⟩, ⟨fun x x1 x2 hp => ?_, fun i hi hp => ?_, fun hp => ?_⟩⟩
  · rcases hp with z | ⟨j, hj, rfl⟩
    · omega
    · have := hL.1 j hj; omega
  · rcases hp with z | ⟨j, hj, z⟩
    · have := hL.2.1 i hi; omega
    · exact hL.2.2 j i hj hi z.symm
  · rcases hp with z | ⟨j, hj, z⟩
    · rcases hE.1 1 (by decide) with y | y <;> omega
    · exact ned 1 _ (by decide) (h.log hj).1 z
  · rcases hp with z | ⟨j, hj, rfl⟩
    · omega
    · have := hL.2.1 j hj; omega
  · rcases hp with z | ⟨j, hj, z⟩
    · have := hL.1 i hi; omega
    · exact hL.2.2 i j hi hj z
  · rcases hp with z | ⟨j, hj, z⟩
    · rcases hE.1 0 (by decide) with y | y <;> omega
    · exact ned 0 _ (by decide) (h'.log hj).1 z
/-- the river is written -/
theorem w_rep.river (h : w_rep σ b E lg lg' og rg ω) {ρ2 : vR} (hf : v_fr (v_fp (b + 1) lg (v_n (w_ρ ω))) σ σ') (h2 : v_rep σ' (b + 1) (E 0) lg ρ2) (hn : v_n ρ2 = v_n (w_ρ ω)) : w_rep σ' b E lg lg' og rg (w_sV ω ρ2) := by
  obtain ⟨hs, hr, ⟨ρ', hr', hn', hL⟩, hE, he, h0⟩ := h
  refine ⟨w_side.ex (ω := w_sV ω ρ2) (show w_side σ b E og rg (w_sV ω ρ2) from hs) hE he (v_ex.of_fr hf) (fun u hu => ?_), h2, ⟨ρ', hr'.stay hf (w_apart hL hE hr hr').1, ?_, ?_⟩, hE.ex he (v_ex.of_fr hf), he.fr hf, h0.fr hf⟩
  · rcases hu with z | ⟨i, hi, rfl⟩
    · exact Or.inl (by omega)
    · exact Or.inr (Or.inl (hr.log hi).1)
  · show v_n ρ' ≤ v_n ρ2
    rw [hn]; exact hn'
  · show w_lgs b (v_n ρ2) (v_n ρ') lg lg'
    rw [hn]; exact hL
/-- a small write beside the rivers -/
theorem w_rep.beside (h : w_rep σ b E lg lg' og rg ω) {u : Nat} (hf : v_fr (fun x => x = u) σ σ') (hu : u = b ∨ (b + 93 ≤ u ∧ u < b + 100)) {ω' : wS} (hρ : w_ρ ω' = w_ρ ω) (hs' : w_side σ' b E og rg ω') : w_rep σ' b E lg lg' og rg ω' := by
  obtain ⟨hs, hr, ⟨ρ', hr', hn', hL⟩, hE, he, h0⟩ := h
  refine ⟨hs', by rw [hρ]; exact hr.kept hf (fun x x1 x2 e => by omega) (fun i hi e => by have := hL.1 i hi; omega) (fun e => by rcases hE.1 0 (by decide) with y | y <;> omega), ⟨ρ', hr'.kept hf (fun x x1 x2 e => by omega) (fun i hi e => by have := hL.2.1 i hi; omega) (fun e => by rcases hE.1 1 (by decide) with y | y <;> omega), by rw [hρ]; exact hn', by rw [hρ]; exact hL⟩, hE.ex he (v_ex.of_fr hf), he.fr hf, h0.fr hf⟩
theorem w_rep.sO (h : w_rep σ b E lg lg' og rg ω) {k f : Nat} (hk : k < 4) (x : Int32) : w_rep (z_wi σ 3 f (b + 96 + k) x) b E lg lg' og rg (w_sO ω k f x) := by
  refine h.beside (u := b + 96 + k) (v_fr.wi rfl) (by omega) rfl ?_
  obtain ⟨⟨t, ⟨o1, o2, o3⟩, ⟨p1, p2, p3⟩, ⟨q1, q2, q3⟩⟩, -⟩ := h
  refine ⟨t, ⟨o1, o2, fun k' hk' => ?_⟩, ⟨p1, p2, p3⟩, ⟨q1, q2, q3⟩⟩
  obtain ⟨a1, a2, a3⟩ := o3 k' hk'
  refine ⟨a1, a2, fun f' hf' => ?_⟩
  rw [z_i_wi]
  show _ = (if k' = k ∧ f' = f then x else w_O ω k' f')
  by_cases e : k' = k ∧ f' = f
  · rw [if_pos ⟨rfl, e.2, by omega⟩, if_pos e]
  · rw [if_neg (fun z => e ⟨by omega, z.2.1⟩), if_neg e]
    exact a3 f' hf'
theorem w_rep.sC (h : w_rep σ b E lg lg' og rg ω) (x : Int32) : w_rep (z_wi σ 7 5 b x) b E lg lg' og rg (w_sC ω x) := by
  refine h.beside (u := b) (v_fr.wi rfl) (Or.inl rfl) rfl ?_
  obtain ⟨⟨⟨t1, t2, t3, t4, t5, t6, t7, t8⟩, o, p, q⟩, -⟩ := h
  exact ⟨⟨t1, t2, t3, t4, t5, t6, by rw [z_i_wi, if_pos ⟨rfl, rfl, rfl⟩]; rfl, by rw [z_i_wi, if_neg (by omega)]; exact t8⟩, o, p, q⟩
theorem w_rep.sK (h : w_rep σ b E lg lg' og rg ω) (x : Int32) : w_rep (z_wi σ 7 6 b x) b E lg lg' og rg (w_sK ω x) := by
  refine h.beside (u := b) (v_fr.wi rfl) (Or.inl rfl) rfl ?_
  obtain ⟨⟨⟨t1, t2, t3, t4, t5, t6, t7, t8⟩, o, p, q⟩, -⟩ := h
  exact ⟨⟨t1, t2, t3, t4, t5, t6, by rw [z_i_wi, if_neg (by omega)]; exact t7, by rw [z_i_wi, if_pos ⟨rfl, rfl, rfl⟩]; rfl⟩, o, p, q⟩
end WREP
