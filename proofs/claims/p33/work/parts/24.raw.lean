/-! ===== a new river ===== -/
def v_no : Nat → Prop := fun _ => False
theorem v_newline.ex {σ σ' : bS} {B L : Nat} (h : v_newline σ L) (hf : v_ex v_no B σ σ') (h1 : L + 1 < B) : v_newline σ' L := by
  obtain ⟨a1, a2, a3, a4, a5⟩ := h
  obtain ⟨p1, p2, p3, p4⟩ := hf.2 L (by omega)
  obtain ⟨q1, q2, q3, q4⟩ := hf.2 (L + 1) h1
  exact ⟨p1.trans a1, ((p4 id).2.1 0 0).trans a2, q1.trans a3, q2.trans a4, ((p4 id).1 0 1).trans a5⟩
theorem v_newreach.ex {σ σ' : bS} {B x z : Nat} {k : Int32} (h : v_newreach σ x k z) (hf : v_ex v_no B σ σ') (h1 : x < B) (h2 : z + 3 < B) : v_newreach σ' x k z := by
  obtain ⟨a1, a2, a3, a4, a5, a6, a7, a8, a9⟩ := h
  obtain ⟨p1, p2, p3, p4⟩ := hf.2 x h1
  obtain ⟨u1, u2, u3⟩ := p4 id
  exact ⟨(u1 5 0).trans a1, (u1 5 1).trans a2, (u1 5 2).trans a3, (u1 5 3).trans a4, (u1 5 4).trans a5, (u2 5 5).trans a6, (u2 5 6).trans a7, a8.ex hf (by omega), a9.ex hf (by omega)⟩
def v_rawT (σ : bS) (a s : Nat) : Prop := z_t σ a = 7 ∧ z_i σ 6 0 a = 0 ∧ z_i σ 6 1 a = 20 ∧ z_r σ 6 2 a = some (a + 1) ∧ z_r σ 6 3 a = some (a + 2) ∧ z_r σ 6 4 a = some (a + 3) ∧ z_r σ 6 5 a = some (a + 5) ∧ z_r σ 6 6 a = some (a + 6) ∧ z_t σ (a + 2) = 23 ∧ z_n σ (a + 2) = 6 ∧ z_t σ (a + 5) = 24 ∧ z_n σ (a + 5) = 4 ∧ z_t σ (a + 1) = 9 ∧ z_i σ 8 2 (a + 1) = 0 ∧ z_r σ 8 1 (a + 1) = some s ∧ z_t σ s = 32 ∧ v_newline σ (a + 3) ∧ v_newline σ (a + 6)
def v_raw (σ : bS) (a s r g : Nat) : Prop := v_rawT σ a s ∧ (∀ j, j < r → z_q σ (a + 2) j = some (v_ra a j)) ∧ (∀ j, j < g → z_q σ (a + 5) j = some (a + 38 + 2 * j)) ∧ (∀ j, j < r → z_t σ (v_ra a j) = 6 ∧ v_newreach σ (v_ra a j) (nI j) (v_ra a j + 1)) ∧ ∀ j, j < g → v_newline σ (a + 38 + 2 * j)
theorem v_rawT.ex {σ σ' : bS} {B a s : Nat} (h : v_rawT σ a s) (hf : v_ex v_no B σ σ') (hs : s < B) (h1 : a + 8 ≤ B) : v_rawT σ' a s := by
  obtain ⟨t1, t2, t3, t4, t5, t6, t7, t8, t9, t10, t11, t12, t13, t14, t15, t16, t17, t18⟩ := h
  have pt : ∀ y, y < B → z_t σ' y = z_t σ y := fun y hy => (hf.2 y hy).1
  have pn : ∀ y, y < B → z_n σ' y = z_n σ y := fun y hy => (hf.2 y hy).2.1
  have pi : ∀ y, y < B → ∀ c k, z_i σ' c k y = z_i σ c k y := fun y hy => ((hf.2 y hy).2.2.2 id).1
  have pr : ∀ y, y < B → ∀ c k, z_r σ' c k y = z_r σ c k y := fun y hy => ((hf.2 y hy).2.2.2 id).2.1
  exact ⟨(pt _ (by omega)).trans t1, (pi _ (by omega) _ _).trans t2, (pi _ (by omega) _ _).trans t3, (pr _ (by omega) _ _).trans t4, (pr _ (by omega) _ _).trans t5, (pr _ (by omega) _ _).trans t6, (pr _ (by omega) _ _).trans t7, (pr _ (by omega) _ _).trans t8, (pt _ (by omega)).trans t9, (pn _ (by omega)).trans t10, (pt _ (by omega)).trans t11, (pn _ (by omega)).trans t12, (pt _ (by omega)).trans t13, (pi _ (by omega) _ _).trans t14, (pr _ (by omega) _ _).trans t15, (pt _ hs).trans t16, t17.ex hf (by omega), t18.ex hf (by omega)⟩
theorem v_raw.ex {σ σ' : bS} {B a s r g : Nat} (h : v_raw σ a s r g) (hf : v_ex v_no B σ σ') (hs : s < B) (h1 : a + 8 + 5 * r ≤ B) (h2 : 0 < g → a + 38 + 2 * g ≤ B) : v_raw σ' a s r g := by
  obtain ⟨t, u1, u2, u3, u4⟩ := h
  have pq : ∀ y, y < B → z_q σ' y = z_q σ y := fun y hy => ((hf.2 y hy).2.2.2 id).2.2
  refine ⟨t.ex hf hs (by omega), fun j hj => by rw [pq _ (by omega)]; exact u1 j hj, fun j hj => by rw [pq _ (by omega)]; exact u2 j hj, fun j hj => ⟨?_, (u3 j hj).2.ex hf ?_ ?_⟩, fun j hj => (u4 j hj).ex hf (by have := h2 (by omega); omega)⟩
  · exact ((hf.2 _ (by unfold v_ra; omega)).1).trans (u3 j hj).1
  · unfold v_ra; omega
  · unfold v_ra; omega
theorem v_newline.wq {σ : bS} {L b j : Nat} {w : Option Nat} (h : v_newline σ L) : v_newline (z_wq σ b j w) L := h
def m_new : vR := (0, 20, 0, fun _ _ => 0, fun _ f => if f = 2 then 3 else 0, fun _ => [])
theorem v_raw.rep {σ : bS} {a s : Nat} (h : v_raw σ a s 6 4) : v_rep σ a s (fun _ => 0) m_new := by
  obtain ⟨⟨t1, t2, t3, t4, t5, t6, t7, t8, t9, t10, t11, t12, t13, t14, t15, t16, t17, t18⟩, u1, u2, u3, u4⟩ := h
  have nl : ∀ L, v_newline σ L → v_line σ L (fun _ => 0) 0 [] := fun L hL => ⟨hL.1, hL.2.1, hL.2.2.1, hL.2.2.2.1, hL.2.2.2.2, by simp, by simp, by simp⟩
  refine ⟨⟨t1, t2, t3, t4, t5, t6, t7, t8, t9, t10, u1, t11, t12, fun k hk => ?_⟩, ⟨t13, t14, t15, Or.inl ⟨t16, rfl⟩⟩, fun r hr => ?_, fun q hq => ?_, fun i hi => absurd hi (Nat.not_lt_zero i), by decide, fun i j hi => absurd hi (Nat.not_lt_zero i)⟩
  · rw [u2 k hk]
    unfold v_la
    rw [if_neg (by omega), if_neg (by omega), if_neg (by omega), if_pos (by omega)]
    congr 1
    omega
  · obtain ⟨w0, w1, w2, w3, w4, w5, w6, w7, w8, w9⟩ := u3 r hr
    refine ⟨w0, w1, fun f f1 f2 => ?_, ?_, ?_⟩
    · match f, f1, f2 with
      | 1, _, _ => exact w2
      | 2, _, _ => exact w3
      | 3, _, _ => exact w4
      | 4, _, _ => exact w5
      | n + 5, _, h => omega
    · rw [w6]; unfold v_la v_ra; rw [if_pos hr]; congr 1; omega
    · rw [w7]; unfold v_la v_ra; rw [if_neg (by omega), if_pos (by omega)]; congr 1; omega
  · refine nl _ ?_
    by_cases c1 : q < 6
    · have := (u3 q c1).2.2.2.2.2.2.2.2.1
      have e : v_la a q = v_ra a q + 1 := by unfold v_la v_ra; rw [if_pos c1]; omega
      rw [e]; exact this
    · by_cases c2 : q < 12
      · have := (u3 (q - 6) (by omega)).2.2.2.2.2.2.2.2.2
        have e : v_la a q = v_ra a (q - 6) + 1 + 2 := by unfold v_la v_ra; rw [if_neg c1, if_pos c2]; omega
        rw [e]; exact this
      · by_cases c3 : q = 12
        · have e : v_la a q = a + 3 := by unfold v_la; rw [if_neg c1, if_neg c2, if_pos c3]
          rw [e]; exact t17
        · by_cases c4 : q < 17
          · have e : v_la a q = a + 38 + 2 * (q - 13) := by unfold v_la; rw [if_neg c1, if_neg c2, if_neg c3, if_pos c4]
            rw [e]; exact u4 _ (by omega)
          · have e : v_la a q = a + 6 := by unfold v_la; rw [if_neg c1, if_neg c2, if_neg c3, if_neg c4]
            rw [e]; exact t18
