/-! ===== the law's loop: draws, strokes, bounds ===== -/
theorem m_bel_pos (v : Int32) : ¬ (v &&& Int32.ofNat 2147483647) < 0 := by
  intro h
  have h1 : (v &&& Int32.ofNat 2147483647).toInt < 0 := Int32.lt_iff_toInt_lt.mp h
  have hm : (v &&& Int32.ofNat 2147483647).toBitVec.msb = false := by
    rw [Int32.toBitVec_and, BitVec.msb_and]
    have e : (Int32.ofNat 2147483647).toBitVec.msb = false := by decide
    rw [e, Bool.and_false]
  rw [BitVec.msb_eq_toInt] at hm
  exact of_decide_eq_false hm h1
theorem nI_divN {a b : Nat} (ha : a < 2 ^ 31) (hb : b < 2 ^ 31) : nI a / nI b = nI (a / b) := by
  have hq : a / b ≤ a := Nat.div_le_self a b
  apply Int32.toInt_inj.mp
  rw [Int32.toInt_div, nI_toInt ha, nI_toInt hb, nI_toInt (n := a / b) (by omega), ← Int.ofNat_tdiv]
  generalize a / b = q at hq
  rw [Int.bmod_def]
  have e : ((2 ^ 32 : Nat) : Int) = 4294967296 := by decide
  rw [e]
  split <;> omega
theorem nI_mulN (a b : Nat) : nI a * nI b = nI (a * b) := (Int32.ofNat_mul a b).symm
theorem m_bel_nI (v : Int32) {n : Nat} {N : Int32} (hN : N = nI n) (h0 : 0 < n) (h : n < 100000) : ∃ k, k < n ∧ m_bel v N = nI k := by
  subst hN
  obtain ⟨m, hm, em⟩ := nI_of (m_bel_pos v)
  unfold m_bel
  rw [em, nI_divN hm (by omega), nI_mulN, nI_sub (Nat.div_mul_le_self m n)]
  refine ⟨m - m / n * n, ?_, rfl⟩
  have h1 := Nat.div_add_mod m n
  have h2 := Nat.mod_lt m h0
  rw [Nat.mul_comm] at h1
  omega
theorem g_andnot {a b : Int32} (h : a &&& b = a) : a &&& (b ^^^ -1) = 0 := by
  have e1 : (-1 : Int32).toBitVec = BitVec.allOnes 32 := by decide
  apply Int32.toBitVec_inj.mp
  rw [← h, Int32.toBitVec_and, Int32.toBitVec_and, Int32.toBitVec_xor, e1]
  show _ = 0#32
  ext i hi
  simp only [BitVec.getElem_and, BitVec.getElem_xor, BitVec.getElem_allOnes, BitVec.getElem_zero]
  cases a.toBitVec[i] <;> cases b.toBitVec[i] <;> rfl
/-- how high the money may stand at a step -/
def bB (t : Nat) : Int := ((58320 * (t * t) : Nat) : Int)
theorem bB_s (t : Nat) : bB t + 116640 * (t : Int) ≤ bB (t + 1) := by
  unfold bB
  have e : (t + 1) * (t + 1) = t * t + 2 * t + 1 := by
    rw [Nat.add_mul, Nat.mul_add]
    omega
  rw [e]
  generalize t * t = q
  omega
theorem bB_le {t : Nat} (h : t ≤ 76) : bB t ≤ 336856320 := by
  unfold bB
  have e : t * t ≤ 76 * 76 := Nat.mul_le_mul h h
  generalize t * t = q at e
  omega
/-- what holds of the system before step t -/
def l_inv (ω : wS) (t M cr : Nat) : Prop := w_inv ω t M (4 * t) (80 * t) (bB t) ∧ w_lo ω (10000 * (t : Int)) ∧ w_crew ω = nI cr ∧ cr ≤ 20 ∧ M ≤ 160 * t
theorem l_inv.step {ω : wS} {t M cr D C : Nat} {B A : Int} (h : w_inv ω (t + 1) M D C B) (hl : w_lo ω A) (hcr : w_crew ω = nI cr) (hcr2 : cr ≤ 20) (hM : M ≤ 160 * t + 160) (hD : D ≤ 4 * t + 4) (hC : C ≤ 80 * t + 80) (hB : B ≤ bB t + 116640 * (t : Int)) (hA : A ≤ 10000 * (t : Int) + 10000) : l_inv ω (t + 1) M cr := by
  have hb := bB_s t
  exact ⟨h.le (Nat.le_refl _) (by omega) (by omega) (by omega), hl.le (by omega), hcr, hcr2, by omega⟩
theorem l_inv.start : l_inv m_w0 0 0 0 := by
  have e : bB 0 = 0 := by decide
  refine ⟨?_, ?_, rfl, by decide, Nat.le_refl _⟩
  · rw [e]
    exact w_inv_w0.1
  · exact w_inv_w0.2
/-- the law's rows of places and strokes -/
def l_pq (ω : wS) (P Q : Nat → Int32) : Prop := (∀ j, j < v_n (w_ρ ω) → P j = v_L (w_ρ ω) j 6 ∧ Q j = v_L (w_ρ ω) j 4) ∧ ∀ j, v_n (w_ρ ω) ≤ j → j < 40 → P j = 0
def l_ck (ω : wS) (P Q : Nat → Int32) (told : Int32) : Prop := (∀ k, k < v_n (w_ρ ω) → (8 < P k → v_L (w_ρ ω) k 6 = P k) ∧ (0 < P k → ¬ v_L (w_ρ ω) k 6 = 0) ∧ (¬ nI k = told → v_L (w_ρ ω) k 4 &&& (Q k ^^^ -1) = 0)) ∧ ∀ j, v_n (w_ρ ω) ≤ j → j < 40 → P j = 0
theorem l_ck_1 {F F' : Nat → Int32} {p q : Int32} (hp : p = F 6) (hq : q = F 4) (h : g_mn F F') : (8 < p → F' 6 = p) ∧ (0 < p → ¬ F' 6 = 0) ∧ F' 4 &&& (q ^^^ -1) = 0 := by
  subst hp hq
  exact ⟨h.1, fun z => h.2.1 (fun e => absurd z (by rw [e]; decide)), g_andnot h.2.2⟩
theorem l_ck.mn {ω ω' : wS} {P Q : Nat → Int32} {told : Int32} (h : l_pq ω P Q) (hn : v_n (w_ρ ω') = v_n (w_ρ ω)) (hL : ∀ i, g_mn (v_L (w_ρ ω) i) (v_L (w_ρ ω') i)) : l_ck ω' P Q told := by
  refine ⟨fun k hk => ?_, fun j h1 h2 => h.2 j (by rw [← hn]; exact h1) h2⟩
  rw [hn] at hk
  obtain ⟨a, b, c⟩ := l_ck_1 (h.1 k hk).1 (h.1 k hk).2 (hL k)
  exact ⟨a, b, fun _ => c⟩
/-- the law's world -/
def l_wd (σ : bS) (s b A6 A7 len : Nat) (Sc P Q : Nat → Int32) (ω : wS) : Prop := w_ok σ b ω ∧ d_scr σ s len Sc ∧ v_ia σ A6 40 P ∧ v_ia σ A7 40 Q ∧ s ≠ A6 ∧ s ≠ A7 ∧ A6 ≠ A7
theorem w_ok.t8 {σ : bS} {b : Nat} {ω : wS} (h : w_ok σ b ω) : z_t σ b = 8 := by
  obtain ⟨E, lg, lg', og, rg, h9⟩ := h
  exact h9.1.1.1
theorem l_wd.kp {σ σ' : bS} {s b A6 A7 len : Nat} {Sc P Q : Nat → Int32} {ω ω' : wS} (h : l_wd σ s b A6 A7 len Sc P Q ω) (hw : w_ok σ' b ω') (hk : w_kp σ σ') : l_wd σ' s b A6 A7 len Sc P Q ω' := by
  obtain ⟨h1, ⟨h2, h3, h4, h5⟩, h6, h7, h8⟩ := h
  have hs : s < z_z σ := h2.elim (fun e => h1.env.lt e (by decide)) (fun e => h1.env.lt e (by decide))
  have ha6 : A6 < z_z σ := h1.env.lt h6.1 (by decide)
  have ha7 : A7 < z_z σ := h1.env.lt h7.1 (by decide)
  obtain ⟨k1, k2, k3⟩ := hk.2 s hs
  exact ⟨hw, ⟨by rw [k1]; exact h2, k2.trans h3, h4, fun i hi => by rw [k3]; exact h5 i hi⟩, h6.kp hk ha6, h7.kp hk ha7, h8⟩
theorem v_ia.wa {σ : bS} {a n k : Nat} {F : Nat → Int32} (x : Int32) (h : v_ia σ a n F) : v_ia (z_wa σ a k x) a n (fun j => if j = k then x else F j) := by
  refine ⟨h.1, h.2.1, fun j hj => ?_⟩
  show z_a (z_wa σ a k x) a j = if j = k then x else F j
  rw [z_a_wa]
  by_cases e : j = k
  · rw [if_pos ⟨rfl, e⟩, if_pos e]
  · rw [if_neg (fun z => e z.2), if_neg e, h.2.2 j hj]
theorem v_ia.wo {σ : bS} {a b n k : Nat} {F : Nat → Int32} (x : Int32) (h : v_ia σ a n F) (hab : a ≠ b) : v_ia (z_wa σ b k x) a n F := by
  refine ⟨h.1, h.2.1, fun j hj => ?_⟩
  rw [z_a_wa, if_neg (fun z => hab z.1)]
  exact h.2.2 j hj
theorem l_wd.w6 {σ : bS} {s b A6 A7 len k : Nat} {Sc P Q : Nat → Int32} {ω : wS} (x : Int32) (h : l_wd σ s b A6 A7 len Sc P Q ω) : l_wd (z_wa σ A6 k x) s b A6 A7 len Sc (fun j => if j = k then x else P j) Q ω := by
  obtain ⟨h1, ⟨h2, h3, h4, h5⟩, h6, h7, h8, h9, h10⟩ := h
  exact ⟨by rw [w_ok_wa]; exact h1, ⟨h2, h3, h4, fun i hi => by rw [z_a_wa, if_neg (fun z => h8 z.1)]; exact h5 i hi⟩, h6.wa x, h7.wo x (Ne.symm h10), h8, h9, h10⟩
theorem l_wd.w7 {σ : bS} {s b A6 A7 len k : Nat} {Sc P Q : Nat → Int32} {ω : wS} (x : Int32) (h : l_wd σ s b A6 A7 len Sc P Q ω) : l_wd (z_wa σ A7 k x) s b A6 A7 len Sc P (fun j => if j = k then x else Q j) ω := by
  obtain ⟨h1, ⟨h2, h3, h4, h5⟩, h6, h7, h8, h9, h10⟩ := h
  exact ⟨by rw [w_ok_wa]; exact h1, ⟨h2, h3, h4, fun i hi => by rw [z_a_wa, if_neg (fun z => h9 z.1)]; exact h5 i hi⟩, h6.wo x h10, h7.wa x, h8, h9, h10⟩
/-- counts that the law asks for -/
theorem l_many6 {ω : wS} (h : v_inv (w_ρ ω)) : m_atP ω (nI 6 - 1) = nI (v_Q (w_ρ ω) 12).length := by
  have e : nI 6 - 1 = nI 5 := by decide
  rw [e, w_len5 h]
  exact m_fold_ct0 _ _ (fun i c => rfl) _
theorem l_many8 {ω : wS} (h : v_inv (w_ρ ω)) : m_atP ω (nI 8 - 1) = nI (v_Q (w_ρ ω) 17).length := by
  have e : nI 8 - 1 = nI 7 := by decide
  rw [e, w_len7 h]
  exact m_fold_ct0 _ _ (fun i c => rfl) _
theorem l_water {ω : wS} {M : Nat} (h : v_wat (w_ρ ω) M) (hM : M < 100000) : m_sumW 6 (w_ρ ω) ≤ nI M := by
  obtain ⟨⟨W, hW, hs⟩, -⟩ := h
  have e : m_sumW 6 (w_ρ ω) = 0 + v_R (w_ρ ω) 0 1 + v_R (w_ρ ω) 1 1 + v_R (w_ρ ω) 2 1 + v_R (w_ρ ω) 3 1 + v_R (w_ρ ω) 4 1 + v_R (w_ρ ω) 5 1 := rfl
  rw [e, hW 0 (by decide), hW 1 (by decide), hW 2 (by decide), hW 3 (by decide), hW 4 (by decide), hW 5 (by decide), Int32.zero_add, nI_add, nI_add, nI_add, nI_add, nI_add]
  exact nI_le hs (by omega)
