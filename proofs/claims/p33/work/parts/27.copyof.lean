/-! ===== Arrays.copyOf: System.arraycopy, getClass, the class constant, by hand ===== -/
def p_acopy : zPT := fun as σ K => match as with
  | [.ref a, .int sp, .ref b, .int dp, .int n] => sp = 0 ∧ dp = 0 ∧ z_t σ a = 26 ∧ z_t σ b = 26 ∧ ¬ n < 0 ∧ n.toNatClampNeg ≤ z_n σ a ∧ n.toNatClampNeg ≤ z_n σ b ∧ (∀ j y, j < n.toNatClampNeg → z_q σ a j = some y → 1 ≤ z_t σ y ∧ z_t σ y ≤ 9) ∧ K none (z_uq σ b (fun j => if j < n.toNatClampNeg then z_q σ a j else z_q σ b j))
  | _ => False
theorem z_e_uq {cA : Nat → ClassId} {σ : bS} {b : Nat} {f : Nat → Option Nat} : ∀ q, q ≠ b → z_e cA (z_uq σ b f) q = z_e cA σ q := by
  intro q hq
  have e1 : z_q (z_uq σ b f) q = z_q σ q := by rw [z_q_uq, if_neg hq]
  unfold z_e z_fs z_f
  rw [e1]
  rfl
theorem z_cl_obj {D : va_G} {cA : Nat → ClassId} {s : State} (hK : va_K D z_cl (z_tys cA) s) (hN : z_N s) {args : Array Value} {comp : ClassId} (hc : s.vm.findClass "java/lang/Object" = some comp) {t : Nat} (h1 : 1 ≤ t) (h2 : t ≤ 9) : ∃ (d : Nat) (rd : vw_C), t = d + 1 ∧ z_cl[d]? = some rd ∧ s.vm.assignable (D.1 d) comp = true := by
  have obj : ∀ (d : Nat) (rd : vw_C), z_cl[d]? = some rd → Cond.castable rd.1 "java/lang/Object" ∈ z_nk → s.vm.assignable (D.1 d) comp = true := by
    intro d rd hd1 hd3
    obtain ⟨c0, t0, f1, f2, f3⟩ := Cond.castable_spec (hN.nest hd3 rfl args)
    have hcls := (hK.1 d rd hd1).2
    rw [← Option.some.inj (hcls.1.symm.trans f1).symm, ← Option.some.inj (f2.symm.trans hc)]
    exact f3
  match t, h1, h2 with
  | 1, _, _ => exact ⟨0, _, rfl, rfl, obj 0 _ rfl z_obj0⟩
  | 2, _, _ => exact ⟨1, _, rfl, rfl, obj 1 _ rfl z_obj1⟩
  | 3, _, _ => exact ⟨2, _, rfl, rfl, obj 2 _ rfl z_obj2⟩
  | 4, _, _ => exact ⟨3, _, rfl, rfl, obj 3 _ rfl z_obj3⟩
  | 5, _, _ => exact ⟨4, _, rfl, rfl, obj 4 _ rfl z_obj4⟩
  | 6, _, _ => exact ⟨5, _, rfl, rfl, obj 5 _ rfl z_obj5⟩
  | 7, _, _ => exact ⟨6, _, rfl, rfl, obj 6 _ rfl z_obj6⟩
  | 8, _, _ => exact ⟨7, _, rfl, rfl, obj 7 _ rfl z_obj7⟩
  | 9, _, _ => exact ⟨8, _, rfl, rfl, obj 8 _ rfl z_obj8⟩
  | n + 10, _, h => exact absurd h (by omega)
set_option maxHeartbeats 4000000 in
theorem z_P_acopy {l : Launch} {own : String} {cc : ByteArray} {nL u : Nat} {R : Room} (hlk : Cond.methodLink own u arraycopyName ∈ z_wd) (h1 : 1 ≤ R.frames) (h2 : 8 + (nativeFrameWords "java/lang/System" "arraycopy" 5 + 11) ≤ R.locals) : z_CallP l own cc nL R (4 * u + 2, 5, p_acopy, 0, 0) := by
  intro p e s m args below meth c Q D cA B H0 ini X i pc lv st σ cells slots K hkey hdg g1 g2 g3 g4 g5 hgo H ls locs hok hl hS
  obtain ⟨hx, hb, hml, hown, hts, hN, hK, hBH, -, -⟩ := X
  obtain rfl : i = .invokestatic u := by
    rcases hkey with ⟨k, rfl, hk⟩ | ⟨k, rfl, hk⟩ | ⟨k, rfl, hk⟩
    · have := hk; simp only at this; omega
    · have := hk; simp only at this; omega
    · have : k = u := by have := hk; simp only at this; omega
      rw [this]
  dsimp only at g1 g2 g3 g4 g5 hgo
  generalize has : (st.take 5).reverse = as at g5
  unfold p_acopy at g5
  split at g5
  · rename_i a sp b dp n
    obtain ⟨rfl, rfl, ha, hb2, hn, hna, hnb, hel, hp⟩ := g5
    have hst : st = .int n :: .int 0 :: .ref b :: .int 0 :: .ref a :: st.drop 5 := by
      have := z_take has
      simpa using this
    have hi1 : Cond.static arraycopyName ∈ z_wd := z_in 515 (by decide +kernel) (by decide +kernel)
    have hi2 : Cond.native arraycopyName ∈ z_wd := z_in 516 (by decide +kernel) (by decide +kernel)
    have hi3 : Cond.initialized "java/lang/System" ∈ z_wd := z_in 74 (by decide +kernel) (by decide +kernel)
    have hc9 : ((st.drop 5).map fun v => v.category).sum ≤ 8 := g4
    have ea := z_e_q (cA := cA) (t := 25) ha (by decide) (by decide) (by decide)
    have eb := z_e_q (cA := cA) (t := 25) hb2 (by decide) (by decide) (by decide)
    have hca : H[a]? = some (vp_cell (cA 25) (z_n σ a, .inr (.inr (.inr (.inr (z_q σ a)))))) := hok.2.1 a _ ea
    have hcb : H[b]? = some (vp_cell (cA 25) (z_n σ b, .inr (.inr (.inr (.inr (z_q σ b)))))) := hok.2.1 b _ eb
    have hBb : B ≤ b := hok.2.2.1 b (by rw [hb2]; decide) (by rw [hb2]; decide) (by rw [hb2]; decide)
    have ht5 : (z_tys cA)[5]? = some (cA 25, .object "java/lang/Object") := rfl
    obtain ⟨-, k0, hk0, cm0, hkk0⟩ := (hK.2 5 _ ht5).1 (z_n σ a) (fun j => va_rf (z_q σ a j))
    obtain ⟨-, k1, hk1, cm1, hkk1⟩ := (hK.2 5 _ ht5).1 (z_n σ b) (fun j => va_rf (z_q σ b j))
    have hni : n.toInt = (n.toNatClampNeg : Int) := by
      have hz0 : (0 : Int) ≤ n.toInt := by
        have := Int32.not_lt.mp hn
        simpa using Int32.le_iff_toInt_le.mp this
      show n.toInt = ((n.toInt.toNat : Nat) : Int)
      omega
    have z0 : (0 : Int32).toNatClampNeg = 0 := by decide
    have z0' : (0 : Int32).toInt = 0 := by decide
    rw [hst]
    intro T hT X
    obtain ⟨vm', X', step⟩ := X.arraycopy hx hown (hts _ hlk) (hts _ hi2) (hts _ hi1) (hts _ hi3) (src := a) (dst := b) (cs := vp_cell (cA 25) (z_n σ a, .inr (.inr (.inr (.inr (z_q σ a)))))) (cd := vp_cell (cA 25) (z_n σ b, .inr (.inr (.inr (.inr (z_q σ b)))))) (srcPos := 0) (destPos := 0) (n := n) (by rw [hT]; exact hca) (by rw [hT]; exact hcb)
      (fun _ h => by cases h) (fun _ h => by cases h) (fun h => by cases h) (fun h => by cases h) hk0 hk1 hkk0 hkk1 rfl (by decide) (by decide) hn
      (by rw [z0', hni]; show ¬ _ > ((arrV (cA 25) (z_n σ a) (fun j => va_rf (z_q σ a j))).slots.size : Int); rw [arrV_size]; omega)
      (by rw [z0', hni]; show ¬ _ > ((arrV (cA 25) (z_n σ b) (fun j => va_rf (z_q σ b j))).slots.size : Int); rw [arrV_size]; omega)
      (fun vm₁ hal i hi => by
        have e : (vp_cell (cA 25) (z_n σ a, .inr (.inr (.inr (.inr (z_q σ a)))))).slots.getD ((0 : Int32).toNatClampNeg + i) .null = va_rf (z_q σ a i) := by
          show (arrV (cA 25) (z_n σ a) (fun j => va_rf (z_q σ a j))).slots.getD _ _ = _
          rw [z0, Nat.zero_add, Array.getD_eq_getD_getElem?, arrV_read _ _ (by omega)]
          rfl
        rw [e]
        cases hy : z_q σ a i with
        | none => exact ⟨rfl, trivial⟩
        | some y =>
          obtain ⟨y1, y2⟩ := hel i y hi hy
          obtain ⟨kA, comp, r1, r2, r3, -⟩ := (hK.2 5 _ ht5).2
          cases hk1.symm.trans r1
          cases hkk1.symm.trans r2
          obtain ⟨d, rd, hd1, hd2, hd3⟩ := z_cl_obj hK hN (args := args) r3 y1 y2
          obtain ⟨r9, hr9, cellV, f1, f2, f3, -⟩ := hok.2.1 y _ (z_e_o hd1 hd2 (z_lt20 hd2))
          have hcls := (hK.1 d _ hd2).2
          obtain ⟨kC, hkC, -⟩ := hcls.2
          obtain ⟨kE, hkE, -⟩ := Vm.findClass_spec r3
          obtain ⟨kC', hkC', -⟩ := hal.2.2 _ _ hkC
          obtain ⟨kE', hkE', -⟩ := hal.2.2 _ _ hkE
          refine ⟨rfl, cellV, (show T.heap[y]? = some cellV by rw [hT]; exact f1), (fun q h => by rw [h] at f3; cases f3), ⟨kC', by rw [f2]; exact hkC'⟩, ?_, ?_⟩
          · exact ⟨kE', hkE'⟩
          · show vm₁.assignable _ _ = true
            rw [hal.assignable, f2]
            exact hd3)
      (g := F0 m pc ls (.int n :: .int 0 :: .ref b :: .int 0 :: .ref a :: st.drop 5)) rfl (by rw [hml]; exact hl.1) (rest := st.drop 5) rfl (by rw [hb]; exact hdg) h1 (by show 2 * 0 + _ + _ ≤ _; omega)
    have e1 : copied (vp_cell (cA 25) (z_n σ a, .inr (.inr (.inr (.inr (z_q σ a)))))) (vp_cell (cA 25) (z_n σ b, .inr (.inr (.inr (.inr (z_q σ b)))))) 0 0 n = vp_cell (cA 25) (z_n σ b, .inr (.inr (.inr (.inr (va_cpy (z_q σ a) (z_q σ b) 0 0 n.toNatClampNeg))))) := by
      rw [vp_cell_q, vp_cell_q, vp_cell_q]
      exact va_copied (fun z => va_rf z) (cA 25) (cA 25) (z_q σ a) (z_q σ b) (by omega)
    rw [e1] at X' step
    have hbl : b < H.size := (Array.getElem?_eq_some_iff.mp hcb).1
    have ef : va_cpy (z_q σ a) (z_q σ b) 0 0 n.toNatClampNeg = (fun j => if j < n.toNatClampNeg then z_q σ a j else z_q σ b j) := by
      funext j
      unfold va_cpy
      by_cases hj : j < n.toNatClampNeg
      · rw [if_pos hj, if_pos ⟨Nat.zero_le _, by omega⟩, Nat.zero_add, Nat.sub_zero]
      · rw [if_neg hj, if_neg (by omega)]
    rw [ef] at X' step
    generalize hcN : vp_cell (cA 25) (z_n σ b, .inr (.inr (.inr (.inr (fun j => if j < n.toNatClampNeg then z_q σ a j else z_q σ b j))))) = cN at X' step
    have hheap : ((T.setVm vm').setCell b cN).heap = H.setIfInBounds b cN := by rw [← hT]; rfl
    have oq : ∀ q : Nat, q ≠ b → (H.setIfInBounds b cN)[q]? = H[q]? := fun q hq => by simp [Array.getElem?_setIfInBounds, Ne.symm hq]
    have hok' : z_ok D cA B (z_uq σ b (fun j => if j < n.toNatClampNeg then z_q σ a j else z_q σ b j)) (H.setIfInBounds b cN) := by
      refine z_ok_set hok (by simp) oq rfl rfl (fun e6 he6 => ?_) z_e_uq ⟨by rw [hb2]; decide, by rw [hb2]; decide⟩ (fun q _ => ⟨rfl, rfl⟩)
      rw [z_e_q (σ := z_uq σ b _) (t := 25) hb2 (by decide) (by decide) (by decide)] at he6
      cases he6
      show (H.setIfInBounds b cN)[b]? = some (vp_cell _ _)
      rw [z_q_uq, if_pos rfl]
      show _ = some (vp_cell (cA 25) (z_n σ b, _))
      rw [hcN]
      simp [Array.getElem?_setIfInBounds, hbl]
    obtain ⟨t, a1, b1⟩ := hgo none _ hp (H.setIfInBounds b cN) ls _ hok' hl ⟨by simp; exact hS.1, fun q f1 f2 => by
        rw [oq q (fun e => f2 (by rw [e]; exact hBb))]
        exact hS.2.1 q f1 f2, fun q hq => by
        rcases List.mem_append.mp hq with h | h
        · exact hS.2.2 q h
        · obtain ⟨z, -, hz⟩ := List.mem_map.mp h
          rw [← hz]
          exact hBb⟩ _ hheap X'
    exact ⟨t, step t a1, b1⟩
  · exact g5.elim
section ZGC
variable {p : Program} {l : Launch} {e : Env} {R : Room} {s : State} {m : MethodId} {args : Array Value} {below : List Frame} {meth : Method} {c : Code} {Q : State → Prop}
variable {cc : ByteArray} {nL : Nat} {D : va_G} {cA : Nat → ClassId} {B : Nat} {H0 : Heap} {own : String} {ini : Bool}
theorem z_S_getC (X : z_Cx p s m args meth c cc nL D cA B H0 own ini) {mi u a pc cells slots : Nat} {lv : List (Nat × Value)} {rest : List Value} {σ : bS} (hM : va_Mi "[Ljava/lang/Object;" mi s) (hlk : Cond.methodLink own u ⟨"java/lang/Object", "getClass", "()Ljava/lang/Class;"⟩ ∈ z_wd) (hd : decode cc pc = .ok (.invokevirtual u, 3)) (ht : z_t σ a = 26) (hfr : 1 ≤ R.frames) (hlo : (rest.map fun v => v.category).sum + 14 ≤ R.locals)
    (k : z_Sem p l e R s m args below meth c Q nL D cA B H0 (pc + 3) lv (.ref mi :: rest) σ cells slots) : z_Sem p l e R s m args below meth c Q nL D cA B H0 pc lv (.ref a :: rest) σ cells slots := by
  obtain ⟨hx, hb, hml, hown, hts, hN, hK, hBH, -, -⟩ := X
  intro H ls locs hok hl hS
  have ea := z_e_q (cA := cA) (t := 25) ht (by decide) (by decide) (by decide)
  have hca : H[a]? = some (vp_cell (cA 25) (z_n σ a, .inr (.inr (.inr (.inr (z_q σ a)))))) := hok.2.1 a _ ea
  have ht5 : (z_tys cA)[5]? = some (cA 25, .object "java/lang/Object") := rfl
  have hnm : s.vm.findClass "[Ljava/lang/Object;" = some (cA 25) := va_nmO (hK.2 5 _ ht5).2 (by decide)
  exact va_getC hx hb (hml.trans hl.1.symm) hown (hts _ hlk) (hN.2.1.use) (hts _ (z_in 947 (by decide +kernel) (by decide +kernel))) (hts _ (z_in 490 (by decide +kernel) (by decide +kernel))) (hts _ (z_in 504 (by decide +kernel) (by decide +kernel))) hM ⟨_, hca, rfl, hnm⟩ hfr hlo hd (k H ls locs hok hl hS)
theorem z_S_ldcM (X : z_Cx p s m args meth c cc nL D cA B H0 own ini) {mi u pc cells slots : Nat} {lv : List (Nat × Value)} {rest : List Value} {σ : bS} (hM : va_Mi "[Ljava/lang/Object;" mi s) (hlk : Cond.classLink own u "[Ljava/lang/Object;" ∈ z_wd) (hd : decode cc pc = .ok (.ldc u, 2))
    (k : z_Sem p l e R s m args below meth c Q nL D cA B H0 (pc + 2) lv (.ref mi :: rest) σ cells slots) : z_Sem p l e R s m args below meth c Q nL D cA B H0 pc lv rest σ cells slots := by
  obtain ⟨hx, hb, hml, hown, hts, hN, hK, hBH, -, -⟩ := X
  intro H ls locs hok hl hS
  exact va_ldcM hx hb hown (hts _ hlk) hM hd (k H ls locs hok hl hS)
end ZGC
/-- what Arrays.copyOf does with a row of objects -/
def pJ7_copyOf_1904c : zPT := fun as σ K => match as with
  | [.ref a, .int n] => z_t σ a = 26 ∧ a < z_z σ ∧ ¬ n < 0 ∧ z_n σ a ≤ n.toNatClampNeg ∧ n.toNatClampNeg ≤ 120 ∧ (∀ j y, j < z_n σ a → z_q σ a j = some y → 1 ≤ z_t σ y ∧ z_t σ y ≤ 9 ∧ y < z_z σ) ∧ K (some (.ref (z_z σ))) (z_uq (z_nw σ 26 n.toNatClampNeg) (z_z σ) (fun j => if j < z_n σ a then z_q σ a j else none))
  | _ => False
abbrev rJ7_copyOf_6403c : Room := { frames := 1, cells := 1, slots := 120, locals := 60 }
def clJ7_copyOf_6403c : List zC := [(4 * 304 + 2, 2, p_mmin, 0, 0), (4 * 150 + 2, 5, p_acopy, 0, 0)]
theorem kJ7_copyOf_6403c (l : Launch) : ∀ q ∈ clJ7_copyOf_6403c, z_CallP l RJ7 cJ7_copyOf_6403c 4 rJ7_copyOf_6403c q := by
  intro q hq
  simp only [clJ7_copyOf_6403c, List.mem_cons, List.not_mem_nil, or_false] at hq
  rcases hq with rfl | rfl
  · exact z_P_mmin (u := 304) (z_in 511 (by decide +kernel) (by decide +kernel)) (by decide) (by decide)
  · exact z_P_acopy (u := 150) (z_in 514 (by decide +kernel) (by decide +kernel)) (by decide) (by decide +kernel)
def z_PcM (D : va_G) (cA : Nat → ClassId) (B : Nat) (as : List Value) (σ : bS) (mi : Nat) : Array Value → State → Prop := fun v U => z_Pc D cA B as σ v U ∧ va_Mi "[Ljava/lang/Object;" mi U
theorem z_PcM_blind {D : va_G} {cA : Nat → ClassId} {B : Nat} {as : List Value} {σ : bS} {mi : Nat} : FrameBlind (z_PcM D cA B as σ mi) := fun a U g mk q => ⟨z_Pc_blind a U g mk q.1, va_Mi.moved (u := U) (U := U.calling g mk a) (Vm.Alike.refl U.vm) q.2⟩
set_option maxHeartbeats 4000000 in
set_option maxRecDepth 20000 in
theorem z_copy3 (l : Launch) (D : va_G) (cA : Nat → ClassId) (B : Nat) (a mi : Nat) (n : Int32) (σ : bS) (K : Option Value → bS → Prop) (hp : pJ7_copyOf_1904c [.ref a, .int n] σ K) :
    Met l yJ7_copyOf_6403c (Cond.code yJ7_copyOf_6403c cJ7_copyOf_6403c 4 (some (.array (.object "java/lang/Object"))) :: z_wd) rJ7_copyOf_6403c (z_PcM D cA B [.ref a, .int n, .ref mi] σ mi) (z_Qc D cA B (fun v σ' => (∃ b, v = some (.ref b)) ∧ K v σ')) 1 120 (fun q => B ≤ q) := by
  refine Met.ofW (cc := cJ7_copyOf_6403c) (maxL := 4) (ret := some (.array (.object "java/lang/Object"))) (by decide +kernel) rfl ?_
  intro p e s m args below meth c s₁ Bd hml hv
  obtain ⟨⟨rfl, hok, hK, hN, hB, hZs⟩, hM⟩ := hv
  have hx := Bd.exec
  have hb := Bd.bytes
  have hr := Bd.returns
  have hts0 := atoms_spec (ws := Cond.code yJ7_copyOf_6403c cJ7_copyOf_6403c 4 (some (.array (.object "java/lang/Object"))) :: z_wd) Bd.pre
  have hts : ∀ w ∈ z_wd, w.before [.ref a, .int n, .ref mi].toArray s = true := fun w h => hts0 w (List.mem_cons_of_mem _ h)
  have hown : s.vm.findClass yJ7_copyOf_6403c.cls = some m.cls := findClass_of_methodNamed Bd.named
  have hlocks := Bd.notSynchronized
  have X : z_Cx p s m [.ref a, .int n, .ref mi].toArray meth c cJ7_copyOf_6403c 4 D cA B s.heap yJ7_copyOf_6403c.cls false := ⟨hx, hb, hml, hown, hts, hN, hK, hB, (fun h => by cases h), hZs⟩
  have hl := lv_entry [.ref a, .int n, .ref mi] (n := 4) (by simp [lg_sl, Value.category])
  rw [lg_entry_eq]
  generalize (lg_sl [.ref a, .int n, .ref mi] ++ List.replicate (4 - (lg_sl [.ref a, .int n, .ref mi]).length) Slot.unset).toArray = ls at hl ⊢
  have hCl := z_Cl_Sem (l := l) (e := e) (R := rJ7_copyOf_6403c) (below := below) (Q := MQ below (z_Qc D cA B (fun v σ' => (∃ b, v = some (.ref b)) ∧ K v σ')) [.ref a, .int n, .ref mi].toArray s 1 120 (fun q => B ≤ q)) X oJ7_copyOf_6403c (kJ7_copyOf_6403c l) (z_ret_ok hx hb hr hlocks (Or.inr (Or.inr (Or.inr (Or.inr (Or.inr ⟨rfl, Or.inr ⟨_, rfl⟩⟩))))))
  suffices h : z_Sem p l e rJ7_copyOf_6403c s m [.ref a, .int n, .ref mi].toArray below meth c (MQ below (z_Qc D cA B (fun v σ' => (∃ b, v = some (.ref b)) ∧ K v σ')) [.ref a, .int n, .ref mi].toArray s 1 120 (fun q => B ≤ q)) 4 D cA B s.heap 0 (lv_args 0 [.ref a, .int n, .ref mi]) [] σ 0 0 from h s.heap ls [] hok hl va_S.rf
  have hldc : ∀ (lv : List (Nat × Value)) (st : List Value) (σ : bS) (c9 n9 : Nat), z_Sem p l e rJ7_copyOf_6403c s m [.ref a, .int n, .ref mi].toArray below meth c (MQ below (z_Qc D cA B (fun v σ' => (∃ b, v = some (.ref b)) ∧ K v σ')) [.ref a, .int n, .ref mi].toArray s 1 120 (fun q => B ≤ q)) 4 D cA B s.heap 3 lv (.ref mi :: st) σ c9 n9 → z_Sem p l e rJ7_copyOf_6403c s m [.ref a, .int n, .ref mi].toArray below meth c (MQ below (z_Qc D cA B (fun v σ' => (∃ b, v = some (.ref b)) ∧ K v σ')) [.ref a, .int n, .ref mi].toArray s 1 120 (fun q => B ≤ q)) 4 D cA B s.heap 1 lv st σ c9 n9 := fun lv st σ c9 n9 h => z_S_ldcM (u := 110) X hM (z_in 508 (by decide +kernel) (by decide +kernel)) (by decide +kernel) h
  generalize z_Sem p l e rJ7_copyOf_6403c s m [.ref a, .int n, .ref mi].toArray below meth c (MQ below (z_Qc D cA B (fun v σ' => (∃ b, v = some (.ref b)) ∧ K v σ')) [.ref a, .int n, .ref mi].toArray s 1 120 (fun q => B ≤ q)) 4 D cA B s.heap = KK at hCl hldc ⊢
  obtain ⟨ha, haz, hn, hna, hn9, hel, hp⟩ := hp
  replace haz : (a : Nat) < z_z σ := haz
  have hc : ∀ k, k ≤ 120 → (nI k).toNatClampNeg = k := fun k hk => nI_clamp (by omega)
  have e1 : (a = z_z σ) = False := eq_false (by omega)
  refine hCl.1 [(1, [0, 1, 2])] 60 _ _ _ _ _ _ ?_
  simp only [ze_iconst, ze_bipush, ze_sipush, ze_lconst, ze_dconst, ze_aconst_null, ze_ldc, ze_ldc_w, ze_ldc2_w, ze_ldc2_w1, ze_iload, ze_iload_n, ze_lload, ze_lload_n, ze_aload, ze_aload_n, ze_istore, ze_istore_n, ze_lstore, ze_lstore_n, ze_astore, ze_astore_n, ze_iinc, ze_iadd, ze_isub, ze_imul, ze_iand, ze_ior, ze_ixor, ze_ishl, ze_ishr, ze_idiv, ze_irem, ze_ineg, ze_ladd, ze_lsub, ze_lmul, ze_ldiv, ze_lcmp, ze_i2l, ze_l2i, ze_i2d, ze_ddiv, ze_dmul, ze_dsub, ze_dcmp, ze_dup, ze_pop, ze_dup_x1, ze_dup2, ze_goto, ze_ifnull, ze_ifnonnull, ze_getfield, ze_getfield1, ze_putfield, ze_putfield1, ze_iaload, ze_aaload, ze_iastore, ze_aastore, ze_getstatic, ze_arraylength, ze_new, ze_newarray, ze_anewarray, ze_checkcast, ze_invokevirtual, ze_invokespecial, ze_invokestatic, ze_ireturn, ze_lreturn, ze_dreturn, ze_areturn, ze_return_, ze_tableswitch, ze_ifCond_eq, ze_ifCond_ne, ze_ifCond_lt, ze_ifCond_ge, ze_ifCond_gt, ze_ifCond_le, ze_if_icmp_eq, ze_if_icmp_ne, ze_if_icmp_lt, ze_if_icmp_ge, ze_if_icmp_gt, ze_if_icmp_le, ze_acmp_eq, ze_acmp_ne, zs_ldi, zs_ldl, zs_lda, zs_inc, zs_sw0, zs_sw, zs_cb, zs_cb0, zs_inv0, zs_inv1, zs_inv2, zs_inv3, zs_inv4, zs_inv5, zs_inv6, zs_gl, zs_rm0, zs_rm, zs_rm20, zs_rm2, zs_p0, zs_p00, zs_gl0, zs_pk0, zs_pk, zs_fc, zs_ck0, zs_ck, zs_cat0, zs_cat, zs_ci, zs_cl, zs_cd, zs_cr, zs_cn, zs_cf, zs_cu, zs_cu0, zs_wp, zs_wp0, z_rf_ref, z_rf_null, z_rf_rf, z_o_ref, z_o_null, z_o_rf, va_rf_some, va_rf_none, zc_om1, zc_o0, zc_o1, zc_o2, zc_o3, zc_o4, zc_o5, zc_o6, zc_o7, zc_o8, zc_om4, zc_bm2, zc_b6, zc_b7, zc_b8, zc_b9, zc_b10, zc_b11, zc_b12, zc_b14, zc_b15, zc_b16, zc_b17, zc_b18, zc_b20, zc_b21, zc_b22, zc_b24, zc_b30, zc_b40, zc_b41, zc_b60, zc_b63, zc_b64, zc_b66, zc_b76, zc_nI, if_pos, if_neg, reduceIte, Nat.reduceAdd, Nat.reduceMul, Nat.reduceSub, Nat.reduceEqDiff, Nat.reduceLeDiff, Nat.reduceBEq, and_true, true_and, or_true, true_or, or_false, false_or, and_false, false_and, and_self, or_self, implies_true, forall_const, not_true_eq_false, not_false_eq_true, reduceCtorEq, Nat.zero_add, Nat.add_zero, Nat.add_eq_right, Nat.add_right_cancel_iff, Nat.succ_ne_zero, Nat.le_refl, true_implies, false_implies, Option.some.injEq, zc_f0, zc_f1, zc_f2, zc_f3, zs_args, zs_args0, List.length_cons, List.length_nil, z_t_wi, z_i_wi, z_r_wi, z_n_wi, z_a_wi, z_q_wi, z_z_wi, z_t_wr, z_i_wr, z_r_wr, z_n_wr, z_a_wr, z_q_wr, z_z_wr, z_t_wa, z_i_wa, z_r_wa, z_n_wa, z_a_wa, z_q_wa, z_z_wa, z_t_wq, z_i_wq, z_r_wq, z_n_wq, z_a_wq, z_q_wq, z_z_wq, z_t_nw, z_i_nw, z_r_nw, z_n_nw, z_a_nw, z_q_nw, z_z_nw, z_t_uq, z_i_uq, z_r_uq, z_n_uq, z_a_uq, z_z_uq, z_q_uq, hJ7_copyOf_6403c_0, hJ7_copyOf_6403c_3, hJ7_copyOf_6403c_6, hJ7_copyOf_6403c_7, hJ7_copyOf_6403c_10, hJ7_copyOf_6403c_13, hJ7_copyOf_6403c_14, hJ7_copyOf_6403c_17, hJ7_copyOf_6403c_18, hJ7_copyOf_6403c_24, hJ7_copyOf_6403c_25, hJ7_copyOf_6403c_26, hJ7_copyOf_6403c_27, hJ7_copyOf_6403c_28, hJ7_copyOf_6403c_29, hJ7_copyOf_6403c_30, hJ7_copyOf_6403c_31, hJ7_copyOf_6403c_32, hJ7_copyOf_6403c_35, hJ7_copyOf_6403c_38, hJ7_copyOf_6403c_39, clJ7_copyOf_6403c]
  refine hldc _ _ _ _ _ ?_
  refine hCl.1 [] 60 _ _ _ _ _ _ ?_
  simp only [ze_iconst, ze_bipush, ze_sipush, ze_lconst, ze_dconst, ze_aconst_null, ze_ldc, ze_ldc_w, ze_ldc2_w, ze_ldc2_w1, ze_iload, ze_iload_n, ze_lload, ze_lload_n, ze_aload, ze_aload_n, ze_istore, ze_istore_n, ze_lstore, ze_lstore_n, ze_astore, ze_astore_n, ze_iinc, ze_iadd, ze_isub, ze_imul, ze_iand, ze_ior, ze_ixor, ze_ishl, ze_ishr, ze_idiv, ze_irem, ze_ineg, ze_ladd, ze_lsub, ze_lmul, ze_ldiv, ze_lcmp, ze_i2l, ze_l2i, ze_i2d, ze_ddiv, ze_dmul, ze_dsub, ze_dcmp, ze_dup, ze_pop, ze_dup_x1, ze_dup2, ze_goto, ze_ifnull, ze_ifnonnull, ze_getfield, ze_getfield1, ze_putfield, ze_putfield1, ze_iaload, ze_aaload, ze_iastore, ze_aastore, ze_getstatic, ze_arraylength, ze_new, ze_newarray, ze_anewarray, ze_checkcast, ze_invokevirtual, ze_invokespecial, ze_invokestatic, ze_ireturn, ze_lreturn, ze_dreturn, ze_areturn, ze_return_, ze_tableswitch, ze_ifCond_eq, ze_ifCond_ne, ze_ifCond_lt, ze_ifCond_ge, ze_ifCond_gt, ze_ifCond_le, ze_if_icmp_eq, ze_if_icmp_ne, ze_if_icmp_lt, ze_if_icmp_ge, ze_if_icmp_gt, ze_if_icmp_le, ze_acmp_eq, ze_acmp_ne, zs_ldi, zs_ldl, zs_lda, zs_inc, zs_sw0, zs_sw, zs_cb, zs_cb0, zs_inv0, zs_inv1, zs_inv2, zs_inv3, zs_inv4, zs_inv5, zs_inv6, zs_gl, zs_rm0, zs_rm, zs_rm20, zs_rm2, zs_p0, zs_p00, zs_gl0, zs_pk0, zs_pk, zs_fc, zs_ck0, zs_ck, zs_cat0, zs_cat, zs_ci, zs_cl, zs_cd, zs_cr, zs_cn, zs_cf, zs_cu, zs_cu0, zs_wp, zs_wp0, z_rf_ref, z_rf_null, z_rf_rf, z_o_ref, z_o_null, z_o_rf, va_rf_some, va_rf_none, zc_om1, zc_o0, zc_o1, zc_o2, zc_o3, zc_o4, zc_o5, zc_o6, zc_o7, zc_o8, zc_om4, zc_bm2, zc_b6, zc_b7, zc_b8, zc_b9, zc_b10, zc_b11, zc_b12, zc_b14, zc_b15, zc_b16, zc_b17, zc_b18, zc_b20, zc_b21, zc_b22, zc_b24, zc_b30, zc_b40, zc_b41, zc_b60, zc_b63, zc_b64, zc_b66, zc_b76, zc_nI, if_pos, if_neg, reduceIte, Nat.reduceAdd, Nat.reduceMul, Nat.reduceSub, Nat.reduceEqDiff, Nat.reduceLeDiff, Nat.reduceBEq, and_true, true_and, or_true, true_or, or_false, false_or, and_false, false_and, and_self, or_self, implies_true, forall_const, not_true_eq_false, not_false_eq_true, reduceCtorEq, Nat.zero_add, Nat.add_zero, Nat.add_eq_right, Nat.add_right_cancel_iff, Nat.succ_ne_zero, Nat.le_refl, true_implies, false_implies, Option.some.injEq, zc_f0, zc_f1, zc_f2, zc_f3, zs_args, zs_args0, List.length_cons, List.length_nil, z_t_wi, z_i_wi, z_r_wi, z_n_wi, z_a_wi, z_q_wi, z_z_wi, z_t_wr, z_i_wr, z_r_wr, z_n_wr, z_a_wr, z_q_wr, z_z_wr, z_t_wa, z_i_wa, z_r_wa, z_n_wa, z_a_wa, z_q_wa, z_z_wa, z_t_wq, z_i_wq, z_r_wq, z_n_wq, z_a_wq, z_q_wq, z_z_wq, z_t_nw, z_i_nw, z_r_nw, z_n_nw, z_a_nw, z_q_nw, z_z_nw, z_t_uq, z_i_uq, z_r_uq, z_n_uq, z_a_uq, z_z_uq, z_q_uq, ↓zs_PV, zs_rcv, hJ7_copyOf_6403c_0, hJ7_copyOf_6403c_3, hJ7_copyOf_6403c_6, hJ7_copyOf_6403c_7, hJ7_copyOf_6403c_10, hJ7_copyOf_6403c_13, hJ7_copyOf_6403c_14, hJ7_copyOf_6403c_17, hJ7_copyOf_6403c_18, hJ7_copyOf_6403c_24, hJ7_copyOf_6403c_25, hJ7_copyOf_6403c_26, hJ7_copyOf_6403c_27, hJ7_copyOf_6403c_28, hJ7_copyOf_6403c_29, hJ7_copyOf_6403c_30, hJ7_copyOf_6403c_31, hJ7_copyOf_6403c_32, hJ7_copyOf_6403c_35, hJ7_copyOf_6403c_38, hJ7_copyOf_6403c_39, clJ7_copyOf_6403c, ↓p_mmin, ↓p_acopy, ha, e1]
  
  obtain ⟨k, hk, rfl⟩ := nI_of hn
  have hk2 : (nI k).toNatClampNeg = k := nI_clamp hk
  rw [hk2] at hna hn9 hp ⊢
  have hlt : ¬ nI k < nI (z_n σ a) := Int32.not_lt.mpr (nI_le hna hk)
  have hz2 : (nI (z_n σ a)).toNatClampNeg = z_n σ a := nI_clamp (by omega)
  rw [if_neg hlt, hz2]
  refine ⟨hn, by omega, hn9, by unfold z_ra; decide, hn9, hn9, nI_pos (by omega), Nat.le_refl _, hna, fun j y hj hy => ?_, ⟨⟨_, rfl⟩, hp⟩, hn9⟩
  obtain ⟨y1, y2, y3⟩ := hel j y hj hy
  rw [if_neg (Nat.ne_of_lt y3)]
  exact ⟨y1, y2⟩
abbrev rJ7_copyOf_1904c : Room := { frames := 2, cells := 1, slots := 120, locals := 90 }
theorem oJ7b : z_tok RJ7 false 2 5 cJ7_copyOf_1904c tJ7_copyOf_1904c := oJ7_copyOf_1904c
set_option maxHeartbeats 4000000 in
set_option maxRecDepth 20000 in
theorem ctJ7_copyOf_1904c (l : Launch) : z_Ct l yJ7_copyOf_1904c cJ7_copyOf_1904c 2 (some (.array (.object "java/lang/Object"))) rJ7_copyOf_1904c pJ7_copyOf_1904c 1 120 := by
  intro D cA B as σ Kp hPT
  obtain ⟨a, n, rfl⟩ : ∃ a n, as = [.ref a, .int n] := by
    unfold pJ7_copyOf_1904c at hPT
    split at hPT
    · exact ⟨_, _, rfl⟩
    · exact hPT.elim
  refine Met.ofW (cc := cJ7_copyOf_1904c) (maxL := 2) (ret := some (.array (.object "java/lang/Object"))) (by decide +kernel) rfl ?_
  intro p e s m args below meth c s₁ Bd hml hv
  obtain ⟨rfl, hok, hK, hN, hB, hZs⟩ := hv
  have hx := Bd.exec
  have hb := Bd.bytes
  have hr := Bd.returns
  have hts0 := atoms_spec (ws := Cond.code yJ7_copyOf_1904c cJ7_copyOf_1904c 2 (some (.array (.object "java/lang/Object"))) :: z_wd) Bd.pre
  have hts : ∀ w ∈ z_wd, w.before [.ref a, .int n].toArray s = true := fun w h => hts0 w (List.mem_cons_of_mem _ h)
  have hown : s.vm.findClass yJ7_copyOf_1904c.cls = some m.cls := findClass_of_methodNamed Bd.named
  have hlocks := Bd.notSynchronized
  have X : z_Cx p s m [.ref a, .int n].toArray meth c cJ7_copyOf_1904c 2 D cA B s.heap yJ7_copyOf_1904c.cls false := ⟨hx, hb, hml, hown, hts, hN, hK, hB, (fun h => by cases h), hZs⟩
  obtain ⟨mi, hM⟩ := hN.2.2
  have hl := lv_entry [.ref a, .int n] (n := 2) (by simp [lg_sl, Value.category])
  rw [lg_entry_eq]
  generalize (lg_sl [.ref a, .int n] ++ List.replicate (2 - (lg_sl [.ref a, .int n]).length) Slot.unset).toArray = ls at hl ⊢
  have hCl := z_Cl_Sem (l := l) (e := e) (R := rJ7_copyOf_1904c) (below := below) (Q := MQ below (z_Qc D cA B Kp) [.ref a, .int n].toArray s 1 120 (fun q => B ≤ q)) (cl := []) X oJ7b (by intro q h; cases h) (z_ret_ok hx hb hr hlocks (Or.inr (Or.inr (Or.inr (Or.inr (Or.inr ⟨rfl, Or.inr ⟨_, rfl⟩⟩))))))
  suffices h : z_Sem p l e rJ7_copyOf_1904c s m [.ref a, .int n].toArray below meth c (MQ below (z_Qc D cA B Kp) [.ref a, .int n].toArray s 1 120 (fun q => B ≤ q)) 2 D cA B s.heap 0 (lv_args 0 [.ref a, .int n]) [] σ 0 0 from h s.heap ls [] hok hl va_S.rf
  have hPT2 := hPT
  obtain ⟨ha, haz, hn, hna, hn9, hel, hp⟩ := hPT2
  have hget : z_Sem p l e rJ7_copyOf_1904c s m [.ref a, .int n].toArray below meth c (MQ below (z_Qc D cA B Kp) [.ref a, .int n].toArray s 1 120 (fun q => B ≤ q)) 2 D cA B s.heap 3 [(0, .ref a), (1, .int n)] [.ref a, .int n, .ref a] σ 0 0 := by
    refine z_S_getC (u := 86) X hM (z_in 489 (by decide +kernel) (by decide +kernel)) (by decide +kernel) ha (by decide) (by simp [Value.category]) ?_
    intro H ls2 locs2 hok2 hl2 hS2
    have hd6 : decode cJ7_copyOf_1904c 6 = .ok (.invokestatic 300, 3) := by decide +kernel
    have hG : GoodIn z_wd (Cond.code yJ7_copyOf_6403c cJ7_copyOf_6403c 4 (some (.array (.object "java/lang/Object"))) :: z_wd) := z_good (fun w hw => by
      rcases List.mem_cons.mp hw with h | h
      · rw [h]; exact wJ7_copyOf_6403c
      · exact h)
    refine z_after (va_runS (As := [.ref a, .int n, .ref mi]) (rest := []) ⟨hx, hb, hml, hown, hts⟩ (z_copy3 l D cA B a mi n σ Kp hPT) ⟨callB_of 3 hts hG rfl rfl rfl (hts _ (z_in 73 (by decide +kernel) (by decide +kernel))) (hts _ (z_in 505 (by decide +kernel) (by decide +kernel))) ⟨by decide +kernel, by decide +kernel, by decide +kernel⟩ ⟨by decide, by decide⟩, hts _ (z_in 506 (by decide +kernel) (by decide +kernel))⟩ ⟨z_PcM_blind, fun U hU hW => ⟨⟨rfl, by rw [hU]; exact hok2, va_K.moved hW.alike hK, z_N.warm hW hN, by rw [hU]; exact Nat.le_trans hB hS2.1, by rw [hU]; exact z_Zs.to hW.alike hZs (fun q g4 g5 => hS2.2.1 q g4 g5)⟩, va_Mi.moved hW.alike hM⟩⟩ rfl rfl hl2.1 rfl (lv_room (by decide)) hd6 ⟨by decide, by decide⟩) hl2 hS2 ?_
    rintro v σ' ⟨⟨b, rfl⟩, hKp⟩
    refine hCl.1 [] 60 _ _ _ _ _ _ ?_
    simp only [ze_iconst, ze_bipush, ze_sipush, ze_lconst, ze_dconst, ze_aconst_null, ze_ldc, ze_ldc_w, ze_ldc2_w, ze_ldc2_w1, ze_iload, ze_iload_n, ze_lload, ze_lload_n, ze_aload, ze_aload_n, ze_istore, ze_istore_n, ze_lstore, ze_lstore_n, ze_astore, ze_astore_n, ze_iinc, ze_iadd, ze_isub, ze_imul, ze_iand, ze_ior, ze_ixor, ze_ishl, ze_ishr, ze_idiv, ze_irem, ze_ineg, ze_ladd, ze_lsub, ze_lmul, ze_ldiv, ze_lcmp, ze_i2l, ze_l2i, ze_i2d, ze_ddiv, ze_dmul, ze_dsub, ze_dcmp, ze_dup, ze_pop, ze_dup_x1, ze_dup2, ze_goto, ze_ifnull, ze_ifnonnull, ze_getfield, ze_getfield1, ze_putfield, ze_putfield1, ze_iaload, ze_aaload, ze_iastore, ze_aastore, ze_getstatic, ze_arraylength, ze_new, ze_newarray, ze_anewarray, ze_checkcast, ze_invokevirtual, ze_invokespecial, ze_invokestatic, ze_ireturn, ze_lreturn, ze_dreturn, ze_areturn, ze_return_, ze_tableswitch, ze_ifCond_eq, ze_ifCond_ne, ze_ifCond_lt, ze_ifCond_ge, ze_ifCond_gt, ze_ifCond_le, ze_if_icmp_eq, ze_if_icmp_ne, ze_if_icmp_lt, ze_if_icmp_ge, ze_if_icmp_gt, ze_if_icmp_le, ze_acmp_eq, ze_acmp_ne, zs_ldi, zs_ldl, zs_lda, zs_inc, zs_sw0, zs_sw, zs_cb, zs_cb0, zs_inv0, zs_inv1, zs_inv2, zs_inv3, zs_inv4, zs_inv5, zs_inv6, zs_gl, zs_rm0, zs_rm, zs_rm20, zs_rm2, zs_p0, zs_p00, zs_gl0, zs_pk0, zs_pk, zs_fc, zs_ck0, zs_ck, zs_cat0, zs_cat, zs_ci, zs_cl, zs_cd, zs_cr, zs_cn, zs_cf, zs_cu, zs_cu0, zs_wp, zs_wp0, z_rf_ref, z_rf_null, z_rf_rf, z_o_ref, z_o_null, z_o_rf, va_rf_some, va_rf_none, zc_om1, zc_o0, zc_o1, zc_o2, zc_o3, zc_o4, zc_o5, zc_o6, zc_o7, zc_o8, zc_om4, zc_bm2, zc_b6, zc_b7, zc_b8, zc_b9, zc_b10, zc_b11, zc_b12, zc_b14, zc_b15, zc_b16, zc_b17, zc_b18, zc_b20, zc_b21, zc_b22, zc_b24, zc_b30, zc_b40, zc_b41, zc_b60, zc_b63, zc_b64, zc_b66, zc_b76, zc_nI, if_pos, if_neg, reduceIte, Nat.reduceAdd, Nat.reduceMul, Nat.reduceSub, Nat.reduceEqDiff, Nat.reduceLeDiff, Nat.reduceBEq, and_true, true_and, or_true, true_or, or_false, false_or, and_false, false_and, and_self, or_self, implies_true, forall_const, not_true_eq_false, not_false_eq_true, reduceCtorEq, Nat.zero_add, Nat.add_zero, Nat.add_eq_right, Nat.add_right_cancel_iff, Nat.succ_ne_zero, Nat.le_refl, true_implies, false_implies, Option.some.injEq, zc_f0, zc_f1, zc_f2, zc_f3, zs_args, zs_args0, List.length_cons, List.length_nil, z_t_wi, z_i_wi, z_r_wi, z_n_wi, z_a_wi, z_q_wi, z_z_wi, z_t_wr, z_i_wr, z_r_wr, z_n_wr, z_a_wr, z_q_wr, z_z_wr, z_t_wa, z_i_wa, z_r_wa, z_n_wa, z_a_wa, z_q_wa, z_z_wa, z_t_wq, z_i_wq, z_r_wq, z_n_wq, z_a_wq, z_q_wq, z_z_wq, z_t_nw, z_i_nw, z_r_nw, z_n_nw, z_a_nw, z_q_nw, z_z_nw, z_t_uq, z_i_uq, z_r_uq, z_n_uq, z_a_uq, z_z_uq, z_q_uq, hJ7_copyOf_1904c_0, hJ7_copyOf_1904c_1, hJ7_copyOf_1904c_2, hJ7_copyOf_1904c_3, hJ7_copyOf_1904c_6, hJ7_copyOf_1904c_9, Option.toList, List.cons_append, List.nil_append]
    exact hKp
  generalize z_Sem p l e rJ7_copyOf_1904c s m [.ref a, .int n].toArray below meth c (MQ below (z_Qc D cA B Kp) [.ref a, .int n].toArray s 1 120 (fun q => B ≤ q)) 2 D cA B s.heap = KK at hCl hget ⊢
  refine hCl.1 [(3, [0, 1])] 60 _ _ _ _ _ _ ?_
  simp only [ze_iconst, ze_bipush, ze_sipush, ze_lconst, ze_dconst, ze_aconst_null, ze_ldc, ze_ldc_w, ze_ldc2_w, ze_ldc2_w1, ze_iload, ze_iload_n, ze_lload, ze_lload_n, ze_aload, ze_aload_n, ze_istore, ze_istore_n, ze_lstore, ze_lstore_n, ze_astore, ze_astore_n, ze_iinc, ze_iadd, ze_isub, ze_imul, ze_iand, ze_ior, ze_ixor, ze_ishl, ze_ishr, ze_idiv, ze_irem, ze_ineg, ze_ladd, ze_lsub, ze_lmul, ze_ldiv, ze_lcmp, ze_i2l, ze_l2i, ze_i2d, ze_ddiv, ze_dmul, ze_dsub, ze_dcmp, ze_dup, ze_pop, ze_dup_x1, ze_dup2, ze_goto, ze_ifnull, ze_ifnonnull, ze_getfield, ze_getfield1, ze_putfield, ze_putfield1, ze_iaload, ze_aaload, ze_iastore, ze_aastore, ze_getstatic, ze_arraylength, ze_new, ze_newarray, ze_anewarray, ze_checkcast, ze_invokevirtual, ze_invokespecial, ze_invokestatic, ze_ireturn, ze_lreturn, ze_dreturn, ze_areturn, ze_return_, ze_tableswitch, ze_ifCond_eq, ze_ifCond_ne, ze_ifCond_lt, ze_ifCond_ge, ze_ifCond_gt, ze_ifCond_le, ze_if_icmp_eq, ze_if_icmp_ne, ze_if_icmp_lt, ze_if_icmp_ge, ze_if_icmp_gt, ze_if_icmp_le, ze_acmp_eq, ze_acmp_ne, zs_ldi, zs_ldl, zs_lda, zs_inc, zs_sw0, zs_sw, zs_cb, zs_cb0, zs_inv0, zs_inv1, zs_inv2, zs_inv3, zs_inv4, zs_inv5, zs_inv6, zs_gl, zs_rm0, zs_rm, zs_rm20, zs_rm2, zs_p0, zs_p00, zs_gl0, zs_pk0, zs_pk, zs_fc, zs_ck0, zs_ck, zs_cat0, zs_cat, zs_ci, zs_cl, zs_cd, zs_cr, zs_cn, zs_cf, zs_cu, zs_cu0, zs_wp, zs_wp0, z_rf_ref, z_rf_null, z_rf_rf, z_o_ref, z_o_null, z_o_rf, va_rf_some, va_rf_none, zc_om1, zc_o0, zc_o1, zc_o2, zc_o3, zc_o4, zc_o5, zc_o6, zc_o7, zc_o8, zc_om4, zc_bm2, zc_b6, zc_b7, zc_b8, zc_b9, zc_b10, zc_b11, zc_b12, zc_b14, zc_b15, zc_b16, zc_b17, zc_b18, zc_b20, zc_b21, zc_b22, zc_b24, zc_b30, zc_b40, zc_b41, zc_b60, zc_b63, zc_b64, zc_b66, zc_b76, zc_nI, if_pos, if_neg, reduceIte, Nat.reduceAdd, Nat.reduceMul, Nat.reduceSub, Nat.reduceEqDiff, Nat.reduceLeDiff, Nat.reduceBEq, and_true, true_and, or_true, true_or, or_false, false_or, and_false, false_and, and_self, or_self, implies_true, forall_const, not_true_eq_false, not_false_eq_true, reduceCtorEq, Nat.zero_add, Nat.add_zero, Nat.add_eq_right, Nat.add_right_cancel_iff, Nat.succ_ne_zero, Nat.le_refl, true_implies, false_implies, Option.some.injEq, zc_f0, zc_f1, zc_f2, zc_f3, zs_args, zs_args0, List.length_cons, List.length_nil, z_t_wi, z_i_wi, z_r_wi, z_n_wi, z_a_wi, z_q_wi, z_z_wi, z_t_wr, z_i_wr, z_r_wr, z_n_wr, z_a_wr, z_q_wr, z_z_wr, z_t_wa, z_i_wa, z_r_wa, z_n_wa, z_a_wa, z_q_wa, z_z_wa, z_t_wq, z_i_wq, z_r_wq, z_n_wq, z_a_wq, z_q_wq, z_z_wq, z_t_nw, z_i_nw, z_r_nw, z_n_nw, z_a_nw, z_q_nw, z_z_nw, z_t_uq, z_i_uq, z_r_uq, z_n_uq, z_a_uq, z_z_uq, z_q_uq, hJ7_copyOf_1904c_0, hJ7_copyOf_1904c_1, hJ7_copyOf_1904c_2, hJ7_copyOf_1904c_3, hJ7_copyOf_1904c_6, hJ7_copyOf_1904c_9]
  exact hget
