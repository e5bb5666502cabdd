/-! ===== one river is copied into another ===== -/
theorem v_rep.cong {σ : bS} {a ed : Nat} {lg : Nat → Nat} {ρ ρ' : vR} (h : v_rep σ a ed lg ρ) (h1 : v_now ρ' = v_now ρ) (h2 : v_room ρ' = v_room ρ) (h3 : v_n ρ' = v_n ρ) (h4 : ∀ i, i < v_n ρ → ∀ f, 1 ≤ f → f ≤ 10 → v_L ρ' i f = v_L ρ i f) (h5 : ∀ r, r < 6 → ∀ f, 1 ≤ f → f ≤ 4 → v_R ρ' r f = v_R ρ r f) (h6 : ∀ q, q < 18 → v_Q ρ' q = v_Q ρ q) : v_rep σ a ed lg ρ' := by
  obtain ⟨t, al, hr, hq, hl, hn, hi⟩ := h
  unfold v_rep
  rw [h1, h2, h3]
  refine ⟨t, al, fun r hr6 => ?_, fun q hq18 => by rw [h6 q hq18]; exact hq q hq18, fun i hin => ?_, hn, hi⟩
  · obtain ⟨r1, r2, r3, r4, r5⟩ := hr r hr6
    exact ⟨r1, r2, fun f f1 f2 => by rw [h5 r hr6 f f1 f2]; exact r3 f f1 f2, r4, r5⟩
  · obtain ⟨g1, g2, g3⟩ := hl i hin
    exact ⟨g1, g2, fun f f1 f2 => by rw [h4 i hin f f1 f2]; exact g3 f f1 f2⟩
def v_sLs (ρ : vR) (i : Nat) (F : Nat → Int32) : vR := (v_now ρ, v_room ρ, v_n ρ, fun i' f' => if i' = i then F f' else v_L ρ i' f', v_R ρ, v_Q ρ)
def v_grow (ρ : vR) (F : Nat → Int32) : vR := (v_now ρ, v_room ρ, v_n ρ + 1, fun i' f' => if i' = v_n ρ then F f' else v_L ρ i' f', v_R ρ, v_Q ρ)
/-- a log's fields are another's -/
theorem v_rep.cpL {σ σ' : bS} {a ed : Nat} {lg : Nat → Nat} {ρ : vR} (h : v_rep σ a ed lg ρ) {i o : Nat} (hi : i < v_n ρ) (hc : m_cp (lg i) o 10 σ σ') {F : Nat → Int32} (hF : ∀ f, 1 ≤ f → f ≤ 10 → z_i σ 1 f o = F f) : v_rep σ' a ed lg (v_sLs ρ i F) := by
  obtain ⟨c1, c2, c3, c4, c5, c6, c7⟩ := hc
  obtain ⟨t, al, hr, hq, hl, hn, hinj⟩ := h
  have pi : ∀ c k x, c ≠ 1 → z_i σ' c k x = z_i σ c k x := fun c k x hc => by rw [c7, if_neg (fun z => hc z.1)]
  refine ⟨?_, ?_, fun r hr6 => ?_, fun q hq18 => ?_, fun j hj => ?_, hn, hinj⟩
  · obtain ⟨t1, t2, t3, t4, t5, t6, t7, t8, t9, t10, t11, t12, t13, t14⟩ := t
    exact ⟨by rw [c1]; exact t1, by rw [pi _ _ _ (by decide)]; exact t2, by rw [pi _ _ _ (by decide)]; exact t3, by rw [c2]; exact t4, by rw [c2]; exact t5, by rw [c2]; exact t6, by rw [c2]; exact t7, by rw [c2]; exact t8, by rw [c1]; exact t9, by rw [c3]; exact t10, fun r hr => by rw [c5]; exact t11 r hr, by rw [c1]; exact t12, by rw [c3]; exact t13, fun k hk => by rw [c5]; exact t14 k hk⟩
  · obtain ⟨l1, l2, l3, l4⟩ := al
    refine ⟨by rw [c1]; exact l1, by rw [pi _ _ _ (by decide)]; exact l2, by rw [c2]; exact l3, ?_⟩
    rw [c1, c3, c5]
    exact l4
  · obtain ⟨r1, r2, r3, r4, r5⟩ := hr r hr6
    exact ⟨by rw [c1]; exact r1, by rw [pi _ _ _ (by decide)]; exact r2, fun f f1 f2 => by rw [pi _ _ _ (by decide)]; exact r3 f f1 f2, by rw [c2]; exact r4, by rw [c2]; exact r5⟩
  · obtain ⟨q1, q2, q3, q4, q5, q6, q7, q8⟩ := hq q hq18
    exact ⟨by rw [c1]; exact q1, by rw [c2]; exact q2, by rw [c1]; exact q3, by rw [c3]; exact q4, by rw [pi _ _ _ (by decide)]; exact q5, q6, fun j i hj => by rw [c5]; exact q7 j i hj, q8⟩
  · obtain ⟨g1, g2, g3⟩ := hl j hj
    refine ⟨by rw [c1]; exact g1, by rw [c7, if_neg (by omega)]; exact g2, fun f f1 f2 => ?_⟩
    show _ = (if j = i then F f else v_L ρ j f)
    rw [c7]
    by_cases hji : j = i
    · rw [if_pos ⟨rfl, f1, f2, by rw [hji]⟩, if_pos hji]
      exact hF f f1 f2
    · rw [if_neg (fun z => hji (hinj j i hj hi z.2.2.2)), if_neg hji]
      exact g3 f f1 f2
theorem m_cp.fr {σ σ' : bS} {g o m : Nat} {P : Nat → Prop} (h : m_cp g o m σ σ') (hP : P g) : v_fr P σ σ' := by
  obtain ⟨c1, c2, c3, c4, c5, c6, c7⟩ := h
  exact ⟨c1, c2, c3, c4, c6, fun x hx c k => by rw [c7, if_neg (by rintro ⟨-, -, -, e⟩; exact hx (by rw [e]; exact hP))], fun x _ => by rw [c5]⟩
/-- one log more -/
theorem v_rep.grow {P : Nat → Prop} {σ σ' : bS} {a ed ed' g : Nat} {lg : Nat → Nat} {ρ : vR} {F : Nat → Int32} (h : v_rep σ a ed lg ρ) (he : v_env σ) (hf : v_ex P (z_z σ) σ σ') (hP : ∀ y, P y → z_t σ y = 9 ∨ z_t σ y = 26) (hal : v_al σ' (a + 1) ed' (v_n ρ + 1) (fun i => if i = v_n ρ then g else lg i)) (hg : v_log σ' g (v_n ρ) F) (hn40 : v_n ρ < 40) (hne : ∀ i, i < v_n ρ → lg i ≠ g) :
    v_rep σ' a ed' (fun i => if i = v_n ρ then g else lg i) (v_grow ρ F) := by
  obtain ⟨t, al, hr, hq, hl, hn, hi⟩ := h
  have np : ∀ x t, z_t σ x = t → t ≠ 9 → t ≠ 26 → ¬ P x := fun x t e h1 h2 hp => by
    rcases hP x hp with z | z
    · exact h1 (e.symm.trans z)
    · exact h2 (e.symm.trans z)
  have pt : ∀ x t, z_t σ x = t → t ≠ 0 → z_t σ' x = t := fun x t e h0 => ((hf.2 x (he.lt e h0)).1).trans e
  have pn : ∀ x t, z_t σ x = t → t ≠ 0 → z_n σ' x = z_n σ x := fun x t e h0 => (hf.2 x (he.lt e h0)).2.1
  have pi : ∀ x t, z_t σ x = t → t ≠ 0 → t ≠ 9 → t ≠ 26 → ∀ c k, z_i σ' c k x = z_i σ c k x := fun x t e h0 h1 h2 => ((hf.2 x (he.lt e h0)).2.2.2 (np x t e h1 h2)).1
  have pr : ∀ x t, z_t σ x = t → t ≠ 0 → t ≠ 9 → t ≠ 26 → ∀ c k, z_r σ' c k x = z_r σ c k x := fun x t e h0 h1 h2 => ((hf.2 x (he.lt e h0)).2.2.2 (np x t e h1 h2)).2.1
  have pq : ∀ x t, z_t σ x = t → t ≠ 0 → t ≠ 9 → t ≠ 26 → z_q σ' x = z_q σ x := fun x t e h0 h1 h2 => ((hf.2 x (he.lt e h0)).2.2.2 (np x t e h1 h2)).2.2
  refine ⟨?_, hal, fun r hr6 => ?_, fun q hq18 => ?_, fun i hin => ?_, ?_, fun i j hin hjn e => ?_⟩
  · obtain ⟨t1, t2, t3, t4, t5, t6, t7, t8, t9, t10, t11, t12, t13, t14⟩ := t
    exact ⟨pt _ _ t1 (by decide), by rw [pi a _ t1 (by decide) (by decide) (by decide)]; exact t2, by rw [pi a _ t1 (by decide) (by decide) (by decide)]; exact t3, by rw [pr a _ t1 (by decide) (by decide) (by decide)]; exact t4, by rw [pr a _ t1 (by decide) (by decide) (by decide)]; exact t5, by rw [pr a _ t1 (by decide) (by decide) (by decide)]; exact t6, by rw [pr a _ t1 (by decide) (by decide) (by decide)]; exact t7, by rw [pr a _ t1 (by decide) (by decide) (by decide)]; exact t8, pt _ _ t9 (by decide), by rw [pn _ _ t9 (by decide)]; exact t10, fun r hr => by rw [pq _ _ t9 (by decide) (by decide) (by decide)]; exact t11 r hr, pt _ _ t12 (by decide), by rw [pn _ _ t12 (by decide)]; exact t13, fun k hk => by rw [pq _ _ t12 (by decide) (by decide) (by decide)]; exact t14 k hk⟩
  · obtain ⟨r1, r2, r3, r4, r5⟩ := hr r hr6
    exact ⟨pt _ _ r1 (by decide), by rw [pi _ _ r1 (by decide) (by decide) (by decide)]; exact r2, fun f f1 f2 => by rw [pi _ _ r1 (by decide) (by decide) (by decide)]; exact r3 f f1 f2, by rw [pr _ _ r1 (by decide) (by decide) (by decide)]; exact r4, by rw [pr _ _ r1 (by decide) (by decide) (by decide)]; exact r5⟩
  · obtain ⟨q1, q2, q3, q4, q5, q6, q7, q8⟩ := hq q hq18
    refine ⟨pt _ _ q1 (by decide), by rw [pr _ _ q1 (by decide) (by decide) (by decide)]; exact q2, pt _ _ q3 (by decide), by rw [pn _ _ q3 (by decide)]; exact q4, by rw [pi _ _ q1 (by decide) (by decide) (by decide)]; exact q5, q6, fun j i hj => ?_, fun i hi9 => ?_⟩
    · have hin := q8 i (List.mem_of_getElem? hj)
      have e1 : (fun i => if i = v_n ρ then g else lg i) i = lg i := if_neg (by omega)
      rw [pq _ _ q3 (by decide) (by decide) (by decide), e1]
      exact q7 j i hj
    · have := q8 i hi9
      show i < v_n ρ + 1
      omega
  · have hin' : i < v_n ρ + 1 := hin
    by_cases e : i = v_n ρ
    · subst e
      have e1 : (fun i => if i = v_n ρ then g else lg i) (v_n ρ) = g := if_pos rfl
      rw [e1]
      refine ⟨hg.1, hg.2.1, fun f f1 f2 => ?_⟩
      show _ = (if v_n ρ = v_n ρ then F f else _)
      rw [if_pos rfl]
      exact hg.2.2 f f1 f2
    · obtain ⟨g1, g2, g3⟩ := hl i (by omega)
      have e1 : (fun i => if i = v_n ρ then g else lg i) i = lg i := if_neg e
      rw [e1]
      refine ⟨pt _ _ g1 (by decide), by rw [pi _ _ g1 (by decide) (by decide) (by decide)]; exact g2, fun f f1 f2 => ?_⟩
      show _ = (if i = v_n ρ then F f else v_L ρ i f)
      rw [if_neg e, pi _ _ g1 (by decide) (by decide) (by decide)]
      exact g3 f f1 f2
  · show v_n ρ + 1 ≤ 40
    omega
  · have hin' : i < v_n ρ + 1 := hin
    have hjn' : j < v_n ρ + 1 := hjn
    have e' : (if i = v_n ρ then g else lg i) = (if j = v_n ρ then g else lg j) := e
    by_cases h1 : i = v_n ρ
    · by_cases h2 : j = v_n ρ
      · omega
      · rw [if_pos h1, if_neg h2] at e'
        exact absurd e'.symm (hne j (by omega))
    · by_cases h2 : j = v_n ρ
      · rw [if_neg h1, if_pos h2] at e'
        exact absurd e' (hne i (by omega))
      · rw [if_neg h1, if_neg h2] at e'
        exact hi i j (by omega) (by omega) e'
/-- the empty row has no place -/
def v_e0 (σ : bS) : Prop := (∃ s, z_t σ s = 32) ∧ ∀ s, z_t σ s = 32 → z_n σ s = 0
theorem v_e0.ex {P : Nat → Prop} {σ σ' : bS} (h : v_e0 σ) (he : v_env σ) (he' : v_env σ') (hf : v_ex P (z_z σ) σ σ') : v_e0 σ' := by
  obtain ⟨⟨s, hs⟩, h⟩ := h
  have hsz := he.lt hs (by decide)
  obtain ⟨a1, a2, -⟩ := hf.2 s hsz
  refine ⟨⟨s, a1.trans hs⟩, fun x hx => ?_⟩
  have : x = s := he'.2 x s hx (a1.trans hs)
  rw [this, a2]
  exact h s hs
theorem v_e0.same {σ σ' : bS} (h : v_e0 σ) (h1 : z_t σ' = z_t σ) (h2 : z_n σ' = z_n σ) : v_e0 σ' := ⟨by rw [h1]; exact h.1, fun s hs => by rw [h2]; exact h.2 s (by rw [← h1]; exact hs)⟩
theorem v_e0.fr {P : Nat → Prop} {σ σ' : bS} (h : v_e0 σ) (hf : v_fr P σ σ') : v_e0 σ' := h.same hf.1 hf.2.2.1
theorem v_rep.top_lt {σ : bS} {a ed : Nat} {lg : Nat → Nat} {ρ : vR} (h : v_rep σ a ed lg ρ) (he : v_env σ) : a + 46 ≤ z_z σ := by
  have := (h.line (q := 16) (by omega)).2.2.1
  have e : v_la a 16 + 1 = a + 45 := by unfold v_la; rw [if_neg (by omega), if_neg (by omega), if_neg (by omega), if_pos (by omega)]
  rw [e] at this
  have := he.lt this (by decide)
  omega
theorem v_rep.lg_lt {σ : bS} {a ed : Nat} {lg : Nat → Nat} {ρ : vR} (h : v_rep σ a ed lg ρ) (he : v_env σ) {i : Nat} (hi : i < v_n ρ) : lg i < z_z σ := he.lt (h.log hi).1 (by decide)
theorem v_rep.ed_lt {σ : bS} {a ed : Nat} {lg : Nat → Nat} {ρ : vR} (h : v_rep σ a ed lg ρ) (he : v_env σ) : ed < z_z σ := by
  rcases h.2.1.2.2.2 with z | z
  · exact he.lt z.1 (by decide)
  · exact he.lt z.1 (by decide)
theorem v_apart.new {a n a' ed' n' n2 Z : Nat} {lg lg' lg2 : Nat → Nat} (h : v_apart a lg n a' ed' lg' n') (hlg : ∀ i, i < n2 → (i < n ∧ lg2 i = lg i) ∨ Z ≤ lg2 i) (h1 : a' + 46 ≤ Z) (h2 : ∀ i, i < n' → lg' i < Z) (h3 : ed' < Z) : v_apart a lg2 n2 a' ed' lg' n' := by
  have key : ∀ x, x < Z → ¬ v_fp a lg n x → ¬ v_fp a lg2 n2 x := by
    intro x hx hn hf
    rcases hf with hf | ⟨i, hi, rfl⟩
    · exact hn (Or.inl hf)
    · rcases hlg i hi with ⟨z1, z2⟩ | z
      · exact hn (Or.inr ⟨i, z1, z2⟩)
      · omega
  exact ⟨fun x x1 x2 => key x (by omega) (h.1 x x1 x2), fun i hi => key _ (h2 i hi) (h.2.1 i hi), key _ h3 h.2.2⟩
