
/-! ===== THE WALKER. A state: kinds of addresses, int fields, reference fields (class, field, address), lengths, int arrays, reference arrays, the heap's size ===== -/
abbrev bS : Type := (Nat → Nat) × (Nat → Nat → Nat → Int32) × (Nat → Nat → Nat → Option Nat) × (Nat → Nat) × (Nat → Nat → Int32) × (Nat → Nat → Option Nat) × Nat
def z_t (σ : bS) : Nat → Nat := σ.1
def z_i (σ : bS) : Nat → Nat → Nat → Int32 := σ.2.1
def z_r (σ : bS) : Nat → Nat → Nat → Option Nat := σ.2.2.1
def z_n (σ : bS) : Nat → Nat := σ.2.2.2.1
def z_a (σ : bS) : Nat → Nat → Int32 := σ.2.2.2.2.1
def z_q (σ : bS) : Nat → Nat → Option Nat := σ.2.2.2.2.2.1
def z_z (σ : bS) : Nat := σ.2.2.2.2.2.2
/-- a write of an int field, of a reference field, of an int array's place, of a reference array's place; a new cell of kind t and length n -/
def z_wi (σ : bS) (c k a : Nat) (x : Int32) : bS := (z_t σ, fun c' k' a' => if c' = c ∧ k' = k ∧ a' = a then x else z_i σ c' k' a', z_r σ, z_n σ, z_a σ, z_q σ, z_z σ)
def z_wr (σ : bS) (c k a : Nat) (x : Option Nat) : bS := (z_t σ, z_i σ, fun c' k' a' => if c' = c ∧ k' = k ∧ a' = a then x else z_r σ c' k' a', z_n σ, z_a σ, z_q σ, z_z σ)
def z_wa (σ : bS) (a j : Nat) (x : Int32) : bS := (z_t σ, z_i σ, z_r σ, z_n σ, fun a' j' => if a' = a ∧ j' = j then x else z_a σ a' j', z_q σ, z_z σ)
def z_wq (σ : bS) (a j : Nat) (x : Option Nat) : bS := (z_t σ, z_i σ, z_r σ, z_n σ, z_a σ, fun a' j' => if a' = a ∧ j' = j then x else z_q σ a' j', z_z σ)
def z_nw (σ : bS) (t n : Nat) : bS := (fun a' => if a' = z_z σ then t else z_t σ a', fun c' k' a' => if a' = z_z σ then 0 else z_i σ c' k' a', fun c' k' a' => if a' = z_z σ then none else z_r σ c' k' a', fun a' => if a' = z_z σ then n else z_n σ a', fun a' j' => if a' = z_z σ then 0 else z_a σ a' j', fun a' j' => if a' = z_z σ then none else z_q σ a' j', z_z σ + 1)
theorem z_t_wi (σ : bS) (c k a : Nat) (x : Int32) (a' : Nat) : z_t (z_wi σ c k a x) a' = z_t σ a' := (rfl)
theorem z_i_wi (σ : bS) (c k a : Nat) (x : Int32) (c' k' a' : Nat) : z_i (z_wi σ c k a x) c' k' a' = if c' = c ∧ k' = k ∧ a' = a then x else z_i σ c' k' a' := (rfl)
theorem z_r_wi (σ : bS) (c k a : Nat) (x : Int32) (c' k' a' : Nat) : z_r (z_wi σ c k a x) c' k' a' = z_r σ c' k' a' := (rfl)
theorem z_n_wi (σ : bS) (c k a : Nat) (x : Int32) (a' : Nat) : z_n (z_wi σ c k a x) a' = z_n σ a' := (rfl)
theorem z_a_wi (σ : bS) (c k a : Nat) (x : Int32) (a' j' : Nat) : z_a (z_wi σ c k a x) a' j' = z_a σ a' j' := (rfl)
theorem z_q_wi (σ : bS) (c k a : Nat) (x : Int32) (a' j' : Nat) : z_q (z_wi σ c k a x) a' j' = z_q σ a' j' := (rfl)
theorem z_z_wi (σ : bS) (c k a : Nat) (x : Int32) : z_z (z_wi σ c k a x) = z_z σ := (rfl)
theorem z_t_wr (σ : bS) (c k a : Nat) (x : Option Nat) (a' : Nat) : z_t (z_wr σ c k a x) a' = z_t σ a' := (rfl)
theorem z_i_wr (σ : bS) (c k a : Nat) (x : Option Nat) (c' k' a' : Nat) : z_i (z_wr σ c k a x) c' k' a' = z_i σ c' k' a' := (rfl)
theorem z_r_wr (σ : bS) (c k a : Nat) (x : Option Nat) (c' k' a' : Nat) : z_r (z_wr σ c k a x) c' k' a' = if c' = c ∧ k' = k ∧ a' = a then x else z_r σ c' k' a' := (rfl)
theorem z_n_wr (σ : bS) (c k a : Nat) (x : Option Nat) (a' : Nat) : z_n (z_wr σ c k a x) a' = z_n σ a' := (rfl)
theorem z_a_wr (σ : bS) (c k a : Nat) (x : Option Nat) (a' j' : Nat) : z_a (z_wr σ c k a x) a' j' = z_a σ a' j' := (rfl)
theorem z_q_wr (σ : bS) (c k a : Nat) (x : Option Nat) (a' j' : Nat) : z_q (z_wr σ c k a x) a' j' = z_q σ a' j' := (rfl)
theorem z_z_wr (σ : bS) (c k a : Nat) (x : Option Nat) : z_z (z_wr σ c k a x) = z_z σ := (rfl)
theorem z_t_wa (σ : bS) (a j : Nat) (x : Int32) (a' : Nat) : z_t (z_wa σ a j x) a' = z_t σ a' := (rfl)
theorem z_i_wa (σ : bS) (a j : Nat) (x : Int32) (c' k' a' : Nat) : z_i (z_wa σ a j x) c' k' a' = z_i σ c' k' a' := (rfl)
theorem z_r_wa (σ : bS) (a j : Nat) (x : Int32) (c' k' a' : Nat) : z_r (z_wa σ a j x) c' k' a' = z_r σ c' k' a' := (rfl)
theorem z_n_wa (σ : bS) (a j : Nat) (x : Int32) (a' : Nat) : z_n (z_wa σ a j x) a' = z_n σ a' := (rfl)
theorem z_a_wa (σ : bS) (a j : Nat) (x : Int32) (a' j' : Nat) : z_a (z_wa σ a j x) a' j' = if a' = a ∧ j' = j then x else z_a σ a' j' := (rfl)
theorem z_q_wa (σ : bS) (a j : Nat) (x : Int32) (a' j' : Nat) : z_q (z_wa σ a j x) a' j' = z_q σ a' j' := (rfl)
theorem z_z_wa (σ : bS) (a j : Nat) (x : Int32) : z_z (z_wa σ a j x) = z_z σ := (rfl)
theorem z_t_wq (σ : bS) (a j : Nat) (x : Option Nat) (a' : Nat) : z_t (z_wq σ a j x) a' = z_t σ a' := (rfl)
theorem z_i_wq (σ : bS) (a j : Nat) (x : Option Nat) (c' k' a' : Nat) : z_i (z_wq σ a j x) c' k' a' = z_i σ c' k' a' := (rfl)
theorem z_r_wq (σ : bS) (a j : Nat) (x : Option Nat) (c' k' a' : Nat) : z_r (z_wq σ a j x) c' k' a' = z_r σ c' k' a' := (rfl)
theorem z_n_wq (σ : bS) (a j : Nat) (x : Option Nat) (a' : Nat) : z_n (z_wq σ a j x) a' = z_n σ a' := (rfl)
theorem z_a_wq (σ : bS) (a j : Nat) (x : Option Nat) (a' j' : Nat) : z_a (z_wq σ a j x) a' j' = z_a σ a' j' := (rfl)
theorem z_q_wq (σ : bS) (a j : Nat) (x : Option Nat) (a' j' : Nat) : z_q (z_wq σ a j x) a' j' = if a' = a ∧ j' = j then x else z_q σ a' j' := (rfl)
theorem z_z_wq (σ : bS) (a j : Nat) (x : Option Nat) : z_z (z_wq σ a j x) = z_z σ := (rfl)
theorem z_t_nw (σ : bS) (t n : Nat) (a' : Nat) : z_t (z_nw σ t n) a' = if a' = z_z σ then t else z_t σ a' := (rfl)
theorem z_i_nw (σ : bS) (t n : Nat) (c' k' a' : Nat) : z_i (z_nw σ t n) c' k' a' = if a' = z_z σ then 0 else z_i σ c' k' a' := (rfl)
theorem z_r_nw (σ : bS) (t n : Nat) (c' k' a' : Nat) : z_r (z_nw σ t n) c' k' a' = if a' = z_z σ then none else z_r σ c' k' a' := (rfl)
theorem z_n_nw (σ : bS) (t n : Nat) (a' : Nat) : z_n (z_nw σ t n) a' = if a' = z_z σ then n else z_n σ a' := (rfl)
theorem z_a_nw (σ : bS) (t n : Nat) (a' j' : Nat) : z_a (z_nw σ t n) a' j' = if a' = z_z σ then 0 else z_a σ a' j' := (rfl)
theorem z_q_nw (σ : bS) (t n : Nat) (a' j' : Nat) : z_q (z_nw σ t n) a' j' = if a' = z_z σ then none else z_q σ a' j' := (rfl)
theorem z_z_nw (σ : bS) (t n : Nat) : z_z (z_nw σ t n) = z_z σ + 1 := (rfl)

/-! the classes and the arrays that the worlds hold -/
abbrev z_cl : List vw_C := [(RX0, TX0, 2), (RX1, TX1, 11), (RX2, TX2, 4), (RX3, TX3, 4), (RX4, TX4, 3), (RX5, TX5, 7), (RX6, TX6, 7), (RX7, TX7, 7), (RJx4a65c, TJx4a65c, 3)]
def z_tyc : Nat → Nat → FieldType := fun c => match c with
  | 0 => tyX0 | 1 => tyX1 | 2 => tyX2 | 3 => tyX3 | 4 => tyX4 | 5 => tyX5 | 6 => tyX6 | 7 => tyX7 | _ => tyJx4a65c
/-- is the field an int? -/
def z_k (c k : Nat) : Bool := match z_tyc c k with
  | .int => true
  | _ => false
abbrev z_tys (cA : Nat → ClassId) : List (ClassId × FieldType) := [(cA 20, .int), (cA 21, .object "BoomSorters$Log"), (cA 22, .object "BoomSorters$Reach"), (cA 23, .object "BoomSorters$Line"), (cA 24, .object "BoomSorters$Owner"), (cA 25, .object "java/lang/Object")]
def z_f (σ : bS) (c k a : Nat) : Value := if z_k c k = true then .int (z_i σ c k a) else va_rf (z_r σ c k a)
def z_fs (σ : bS) (c N a : Nat) : List Value := (List.range N).map (fun k => z_f σ c k a)
/-- the cell at an address: kind c + 1: an object of class c; 21, 31: ints (31 is only read); 22 .. 26: references -/
def z_e (cA : Nat → ClassId) (σ : bS) (a : Nat) : Option va_E := match z_t σ a with
  | 0 => none
  | t + 1 => if t < 20 then (match z_cl[t]? with
      | some r => some (.inr (t, z_fs σ t r.2.2 a))
      | none => none) else if t = 20 then some (.inl (cA 20, z_n σ a, .inl (z_a σ a))) else if t = 30 ∨ t = 31 then none else some (.inl (cA t, z_n σ a, .inr (.inr (.inr (.inr (z_q σ a))))))
/-- a cell that was there before: 31 the script (its ints are told), 32 ArrayList's empty row; of it nothing more is known than what the Statement says -/
def z_xc (cA : Nat → ClassId) (σ : bS) (H : Heap) (a : Nat) : Prop := ∃ cell : Cell, H[a]? = some cell ∧ cell.cls = cA (z_t σ a - 1) ∧ (∀ k, cell.vm ≠ .statics k) ∧ (z_t σ a = 31 → cell.vm ≠ .unknown) ∧ cell.slots.size = z_n σ a ∧ ∀ j : Nat, z_t σ a = 31 → j < z_n σ a → cell.slots[j]? = some (.int (z_a σ a j))
def z_xo (cA : Nat → ClassId) (σ : bS) (H : Heap) : Prop := ∀ a, z_t σ a = 31 ∨ z_t σ a = 32 → z_xc cA σ H a
def z_ok (D : va_G) (cA : Nat → ClassId) (B : Nat) (σ : bS) (H : Heap) : Prop := H.size = z_z σ ∧ (∀ (a : Nat) (e : va_E), z_e cA σ a = some e → va_at D z_cl (a, e) H) ∧ (∀ a, z_t σ a ≠ 0 → z_t σ a ≠ 31 → z_t σ a ≠ 32 → B ≤ a) ∧ (∀ a, z_t σ a ≠ 0 → a < z_z σ) ∧ z_t σ (cA 99) = 32 ∧ z_xo cA σ H
theorem z_e_o {cA : Nat → ClassId} {σ : bS} {a c : Nat} {r : vw_C} (h : z_t σ a = c + 1) (hc : z_cl[c]? = some r) (h20 : c < 20) : z_e cA σ a = some (.inr (c, z_fs σ c r.2.2 a)) := by
  unfold z_e
  rw [h]
  simp only [h20, if_true, hc]
theorem z_e_i {cA : Nat → ClassId} {σ : bS} {a : Nat} (h : z_t σ a = 21) : z_e cA σ a = some (.inl (cA 20, z_n σ a, .inl (z_a σ a))) := by
  unfold z_e
  rw [h]
  rfl
theorem z_e_q {cA : Nat → ClassId} {σ : bS} {a t : Nat} (h : z_t σ a = t + 1) (h1 : 21 ≤ t) (h2 : t ≠ 30) (h3 : t ≠ 31) : z_e cA σ a = some (.inl (cA t, z_n σ a, .inr (.inr (.inr (.inr (z_q σ a)))))) := by
  unfold z_e
  rw [h]
  show (if t < 20 then _ else _) = _
  rw [if_neg (by omega), if_neg (by omega), if_neg (by omega)]
theorem z_lt20 {c : Nat} {r : vw_C} (hc : z_cl[c]? = some r) : c < 20 := by
  have := (List.getElem?_eq_some_iff.mp hc).1
  simp [z_cl] at this
  omega
theorem z_fs_at {σ : bS} {c N a k : Nat} (h : k < N) : (z_fs σ c N a)[k]? = some (z_f σ c k a) := by
  simp [z_fs, h]
theorem z_fs_V {σ : bS} {c N a k : Nat} (h : k < N) : vp_V (z_fs σ c N a) k = z_f σ c k a := by
  unfold vp_V
  rw [List.getD_eq_getElem?_getD, z_fs_at h]
  rfl
/-- one cell is written -/
theorem z_ok_set {D : va_G} {cA : Nat → ClassId} {B : Nat} {σ σ' : bS} {H H' : Heap} {a : Nat} (h : z_ok D cA B σ H) (hz : H'.size = H.size) (ho : ∀ q : Nat, q ≠ a → H'[q]? = H[q]?) (ht : z_t σ' = z_t σ) (hz' : z_z σ' = z_z σ)
    (hat : ∀ e, z_e cA σ' a = some e → va_at D z_cl (a, e) H') (hne : ∀ q, q ≠ a → z_e cA σ' q = z_e cA σ q) (hnw : z_t σ a ≠ 31 ∧ z_t σ a ≠ 32) (hna : ∀ q, q ≠ a → z_n σ' q = z_n σ q ∧ z_a σ' q = z_a σ q) : z_ok D cA B σ' H' := by
  obtain ⟨h1, h2, h3, h4, h5⟩ := h
  refine ⟨by rw [hz, h1, hz'], fun q e hq => ?_, by rw [ht]; exact h3, by rw [ht, hz']; exact h4, by rw [ht]; exact h5.1, fun q hq => ?_⟩
  · by_cases hqa : q = a
    · subst hqa
      exact hat e hq
    · rw [hne q hqa] at hq
      exact (h2 q e hq).kept (ho q hqa)
  · rw [ht] at hq
    have hqa : q ≠ a := by
      rintro rfl
      rcases hq with e | e
      · exact hnw.1 e
      · exact hnw.2 e
    obtain ⟨cell, c1, c2, c3, c4, c5, c6⟩ := h5.2 q hq
    exact ⟨cell, by rw [ho q hqa]; exact c1, by rw [ht]; exact c2, c3, by rw [ht]; exact c4, by rw [(hna q hqa).1]; exact c5, fun j e hj => by
      rw [ht] at e
      rw [(hna q hqa).1] at hj
      rw [(hna q hqa).2]
      exact c6 j e hj⟩
/-- a cell comes -/
theorem z_ok_new {D : va_G} {cA : Nat → ClassId} {B : Nat} {σ : bS} {H H' : Heap} {t n : Nat} (h : z_ok D cA B σ H) (hB : B ≤ H.size) (hz : H'.size = H.size + 1) (ho : ∀ q : Nat, q < H.size → H'[q]? = H[q]?)
    (hat : ∀ e, z_e cA (z_nw σ t n) H.size = some e → va_at D z_cl (H.size, e) H') (hnw : t ≠ 31 ∧ t ≠ 32) : z_ok D cA B (z_nw σ t n) H' := by
  obtain ⟨h1, h2, h3, h4, h9⟩ := h
  refine ⟨by rw [hz, h1]; rfl, fun q e hq => ?_, fun q h5 h6 h7 => ?_, fun q h5 => ?_, ?_, fun q hq => ?_⟩
  · by_cases hqa : q = H.size
    · subst hqa
      exact hat e hq
    · have hqz : q ≠ z_z σ := by rw [← h1]; exact hqa
      have e1 : z_e cA (z_nw σ t n) q = z_e cA σ q := by
        unfold z_e z_fs z_f
        simp only [z_t_nw, z_i_nw, z_r_nw, z_n_nw, z_a_nw, z_q_nw, if_neg hqz]
        have ea : z_a (z_nw σ t n) q = z_a σ q := by funext j; simp only [z_a_nw, if_neg hqz]
        have eq : z_q (z_nw σ t n) q = z_q σ q := by funext j; simp only [z_q_nw, if_neg hqz]
        rw [ea, eq]
      rw [e1] at hq
      have hlt : q < H.size := by
        by_cases hc : z_t σ q = 0
        · unfold z_e at hq
          rw [hc] at hq
          cases hq
        · rw [h1]; exact h4 q hc
      exact (h2 q e hq).kept (ho q hlt)
  · by_cases hqz : q = z_z σ
    · rw [hqz, ← h1]; exact hB
    · simp only [z_t_nw, if_neg hqz] at h5 h6 h7
      exact h3 q h5 h6 h7
  · by_cases hqz : q = z_z σ
    · rw [hqz]; exact Nat.lt_succ_self _
    · simp only [z_t_nw, if_neg hqz] at h5
      exact Nat.lt_succ_of_lt (h4 q h5)
  · have := h4 (cA 99) (by rw [h9.1]; decide)
    rw [z_t_nw, if_neg (Nat.ne_of_lt this)]
    exact h9.1
  · by_cases hqz : q = z_z σ
    · rw [z_t_nw, if_pos hqz] at hq
      rcases hq with e | e
      · exact absurd e hnw.1
      · exact absurd e hnw.2
    · rw [z_t_nw, if_neg hqz] at hq
      have hlt : q < H.size := by
        rw [h1]
        exact h4 q (by rcases hq with e | e <;> rw [e] <;> decide)
      obtain ⟨cell, c1, c2, c3, c4, c5, c6⟩ := h9.2 q hq
      exact ⟨cell, by rw [ho q hlt]; exact c1, by rw [z_t_nw, if_neg hqz]; exact c2, c3, by rw [z_t_nw, if_neg hqz]; exact c4, by rw [z_n_nw, if_neg hqz]; exact c5, fun j e hj => by
        rw [z_t_nw, if_neg hqz] at e
        rw [z_n_nw, if_neg hqz] at hj
        rw [z_a_nw, if_neg hqz]
        exact c6 j e hj⟩
