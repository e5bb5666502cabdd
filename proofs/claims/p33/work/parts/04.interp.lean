
/-! ===== one instruction's weakest precondition, and a stretch's ===== -/
abbrev zK : Type := Nat → List (Nat × Value) → List Value → bS → Nat → Nat → Prop
/-- what a method does: arguments, state, and what must hold of its answer and the state behind it -/
abbrev zPT : Type := List Value → bS → (Option Value → bS → Prop) → Prop
/-- a call: the pool's entry, how many arguments with the receiver, what it does, cells and slots -/
abbrev zC : Type := Nat × Nat × zPT × Nat × Nat
def z_gl : List (Nat × Value) → Nat → Option Value
  | [], _ => none
  | q :: r, i => if q.1 = i then some q.2 else z_gl r i
def z_rm : List (Nat × Value) → Nat → List (Nat × Value)
  | [], _ => []
  | q :: r, i => if q.1 = i ∨ (q.1 + 1 = i ∧ q.2.category = 2) then z_rm r i else q :: z_rm r i
def z_rm2 : List (Nat × Value) → Nat → List (Nat × Value)
  | [], _ => []
  | q :: r, i => if q.1 = i ∨ q.1 = i + 1 ∨ (q.1 + 1 = i ∧ q.2.category = 2) then z_rm2 r i else q :: z_rm2 r i
def z_p0 (i : Nat) (o : Option Value) (l : List (Nat × Value)) : List (Nat × Value) := match o with
  | some v => (i, v) :: l
  | none => l
def z_pk (lv : List (Nat × Value)) : List Nat → List (Nat × Value)
  | [] => []
  | i :: r => z_p0 i (z_gl lv i) (z_pk lv r)
def z_o : Value → Option Nat
  | .ref a => some a
  | _ => none
def z_rf (v : Value) : Prop := v = va_rf (z_o v)
theorem z_rf_ref (a : Nat) : z_rf (.ref a) = True := by simp [z_rf, z_o, va_rf]
theorem z_rf_null : z_rf .null = True := by simp [z_rf, z_o, va_rf]
theorem z_rf_rf (r : Option Nat) : z_rf (va_rf r) = True := by cases r <;> simp [z_rf, z_o, va_rf]
theorem z_o_ref (a : Nat) : z_o (.ref a) = some a := (rfl)
theorem z_o_null : z_o .null = none := (rfl)
theorem z_o_rf (r : Option Nat) : z_o (va_rf r) = r := by cases r <;> rfl
theorem va_rf_some (a : Nat) : va_rf (some a) = .ref a := (rfl)
theorem va_rf_none : va_rf none = .null := (rfl)
/-- which cells may stand in an array of references -/
def z_el (ta tv : Nat) : Bool := match ta with
  | 22 => tv == 2 | 23 => tv == 6 | 24 => tv == 1 | 25 => tv == 4 | 26 => decide (1 ≤ tv) && decide (tv ≤ 9) | _ => false
def z_ra (t : Nat) : Prop := 22 ≤ t ∧ t ≤ 26
def z_fc : List zC → Nat → Option (Nat × zPT × Nat × Nat)
  | [], _ => none
  | q :: r, i => if q.1 = i then some q.2 else z_fc r i
def z_cat (st : List Value) : Nat := (st.map fun v => v.category).sum
def z_ldi (v : Option Value) (K : zK) (pc : Nat) (lv : List (Nat × Value)) (st : List Value) (σ : bS) (c n : Nat) : Prop := match v with
  | some (.int x) => K pc lv (.int x :: st) σ c n
  | _ => False
def z_ldl (v : Option Value) (K : zK) (pc : Nat) (lv : List (Nat × Value)) (st : List Value) (σ : bS) (c n : Nat) : Prop := match v with
  | some (.long x) => K pc lv (.long x :: st) σ c n
  | _ => False
def z_lda (v : Option Value) (K : zK) (pc : Nat) (lv : List (Nat × Value)) (st : List Value) (σ : bS) (c n : Nat) : Prop := match v with
  | some x => z_rf x ∧ K pc lv (x :: st) σ c n
  | none => False
def z_inc (v : Option Value) (i : Nat) (k : Int) (K : zK) (pc : Nat) (lv : List (Nat × Value)) (st : List Value) (σ : bS) (c n : Nat) : Prop := match v with
  | some (.int x) => K pc ((i, .int (x + Int32.ofInt k)) :: z_rm lv i) st σ c n
  | _ => False
def z_sw (K : zK) (lv : List (Nat × Value)) (r : List Value) (σ : bS) (c n : Nat) (x : Int32) : Int → List Nat → Prop
  | _, [] => True
  | lo, t :: ts => (x.toInt = lo → K t lv r σ c n) ∧ z_sw K lv r σ c n x (lo + 1) ts
def z_cb (K : zK) (pc : Nat) (lv : List (Nat × Value)) (r : List Value) (c n : Nat) : Option Value → bS → Prop := fun v σ => K pc lv (v.toList ++ r) σ c n
def z_inv (q : Option (Nat × zPT × Nat × Nat)) (rc rs : Nat) (K : zK) (pc : Nat) (lv : List (Nat × Value)) (st : List Value) (σ : bS) (c n : Nat) : Prop := match q with
  | some (k, PT, mc, ms) => k ≤ st.length ∧ c + mc ≤ rc ∧ n + ms ≤ rs ∧ z_cat (st.drop k) ≤ 8 ∧ PT (st.take k).reverse σ (z_cb K pc lv (st.drop k) (c + mc) (n + ms))
  | none => False
def z_p1 (st : List Value) (f : Int32 → List Value → Prop) : Prop := match st with
  | .int x :: r => f x r
  | _ => False
theorem z_p1_inv {st : List Value} {f : Int32 → List Value → Prop} (h : z_p1 st f) : ∃ (x : Int32) (r : List Value), st = .int x :: r ∧ f x r := by
  unfold z_p1 at h
  split at h
  · exact ⟨_, _, rfl, h⟩
  · exact h.elim
def z_p2 (st : List Value) (f : Int32 → Int32 → List Value → Prop) : Prop := match st with
  | .int y :: .int x :: r => f x y r
  | _ => False
theorem z_p2_inv {st : List Value} {f : Int32 → Int32 → List Value → Prop} (h : z_p2 st f) : ∃ (x : Int32) (y : Int32) (r : List Value), st = .int y :: .int x :: r ∧ f x y r := by
  unfold z_p2 at h
  split at h
  · exact ⟨_, _, _, rfl, h⟩
  · exact h.elim
def z_l1 (st : List Value) (f : Int64 → List Value → Prop) : Prop := match st with
  | .long x :: r => f x r
  | _ => False
theorem z_l1_inv {st : List Value} {f : Int64 → List Value → Prop} (h : z_l1 st f) : ∃ (x : Int64) (r : List Value), st = .long x :: r ∧ f x r := by
  unfold z_l1 at h
  split at h
  · exact ⟨_, _, rfl, h⟩
  · exact h.elim
def z_l2 (st : List Value) (f : Int64 → Int64 → List Value → Prop) : Prop := match st with
  | .long y :: .long x :: r => f x y r
  | _ => False
theorem z_l2_inv {st : List Value} {f : Int64 → Int64 → List Value → Prop} (h : z_l2 st f) : ∃ (x : Int64) (y : Int64) (r : List Value), st = .long y :: .long x :: r ∧ f x y r := by
  unfold z_l2 at h
  split at h
  · exact ⟨_, _, _, rfl, h⟩
  · exact h.elim
def z_d1 (st : List Value) (f : UInt64 → List Value → Prop) : Prop := match st with
  | .double x :: r => f x r
  | _ => False
theorem z_d1_inv {st : List Value} {f : UInt64 → List Value → Prop} (h : z_d1 st f) : ∃ (x : UInt64) (r : List Value), st = .double x :: r ∧ f x r := by
  unfold z_d1 at h
  split at h
  · exact ⟨_, _, rfl, h⟩
  · exact h.elim
def z_d2 (st : List Value) (f : UInt64 → UInt64 → List Value → Prop) : Prop := match st with
  | .double y :: .double x :: r => f x y r
  | _ => False
theorem z_d2_inv {st : List Value} {f : UInt64 → UInt64 → List Value → Prop} (h : z_d2 st f) : ∃ (x : UInt64) (y : UInt64) (r : List Value), st = .double y :: .double x :: r ∧ f x y r := by
  unfold z_d2 at h
  split at h
  · exact ⟨_, _, _, rfl, h⟩
  · exact h.elim
def z_v1 (st : List Value) (f : Value → List Value → Prop) : Prop := match st with
  | x :: r => f x r
  | _ => False
theorem z_v1_inv {st : List Value} {f : Value → List Value → Prop} (h : z_v1 st f) : ∃ (x : Value) (r : List Value), st = x :: r ∧ f x r := by
  unfold z_v1 at h
  split at h
  · exact ⟨_, _, rfl, h⟩
  · exact h.elim
def z_v2 (st : List Value) (f : Value → Value → List Value → Prop) : Prop := match st with
  | y :: x :: r => f x y r
  | _ => False
theorem z_v2_inv {st : List Value} {f : Value → Value → List Value → Prop} (h : z_v2 st f) : ∃ (x : Value) (y : Value) (r : List Value), st = y :: x :: r ∧ f x y r := by
  unfold z_v2 at h
  split at h
  · exact ⟨_, _, _, rfl, h⟩
  · exact h.elim
def z_a1 (st : List Value) (f : Nat → List Value → Prop) : Prop := match st with
  | .ref a :: r => f a r
  | _ => False
theorem z_a1_inv {st : List Value} {f : Nat → List Value → Prop} (h : z_a1 st f) : ∃ (a : Nat) (r : List Value), st = .ref a :: r ∧ f a r := by
  unfold z_a1 at h
  split at h
  · exact ⟨_, _, rfl, h⟩
  · exact h.elim
def z_ia (st : List Value) (f : Nat → Int32 → List Value → Prop) : Prop := match st with
  | .int x :: .ref a :: r => f a x r
  | _ => False
theorem z_ia_inv {st : List Value} {f : Nat → Int32 → List Value → Prop} (h : z_ia st f) : ∃ (a : Nat) (x : Int32) (r : List Value), st = .int x :: .ref a :: r ∧ f a x r := by
  unfold z_ia at h
  split at h
  · exact ⟨_, _, _, rfl, h⟩
  · exact h.elim
def z_iia (st : List Value) (f : Nat → Int32 → Int32 → List Value → Prop) : Prop := match st with
  | .int y :: .int x :: .ref a :: r => f a x y r
  | _ => False
theorem z_iia_inv {st : List Value} {f : Nat → Int32 → Int32 → List Value → Prop} (h : z_iia st f) : ∃ (a : Nat) (x : Int32) (y : Int32) (r : List Value), st = .int y :: .int x :: .ref a :: r ∧ f a x y r := by
  unfold z_iia at h
  split at h
  · exact ⟨_, _, _, _, rfl, h⟩
  · exact h.elim
def z_ria (st : List Value) (f : Nat → Nat → Int32 → List Value → Prop) : Prop := match st with
  | .ref v :: .int x :: .ref a :: r => f a v x r
  | _ => False
theorem z_ria_inv {st : List Value} {f : Nat → Nat → Int32 → List Value → Prop} (h : z_ria st f) : ∃ (a : Nat) (v : Nat) (x : Int32) (r : List Value), st = .ref v :: .int x :: .ref a :: r ∧ f a v x r := by
  unfold z_ria at h
  split at h
  · exact ⟨_, _, _, _, rfl, h⟩
  · exact h.elim
def z_va (st : List Value) (f : Nat → Value → List Value → Prop) : Prop := match st with
  | x :: .ref a :: r => f a x r
  | _ => False
theorem z_va_inv {st : List Value} {f : Nat → Value → List Value → Prop} (h : z_va st f) : ∃ (a : Nat) (x : Value) (r : List Value), st = x :: .ref a :: r ∧ f a x r := by
  unfold z_va at h
  split at h
  · exact ⟨_, _, _, rfl, h⟩
  · exact h.elim

/-- the weakest precondition of one instruction -/
def z_st (cl : List zC) (po : Option Value → bS → Nat → Nat → Prop) (rc rs : Nat) (rk : Nat) (K : zK) (i : Instr) (tg : List Nat) (pc : Nat) (lv : List (Nat × Value)) (st : List Value) (σ : bS) (c n : Nat) : Prop :=
  match i with
  | .iconst k => K (pc + 1) lv (.int (Int32.ofInt k) :: st) σ c n
  | .bipush k => K (pc + 2) lv (.int ((Int8.ofInt k).toInt32) :: st) σ c n
  | .sipush k => K (pc + 3) lv (.int ((Int16.ofInt k).toInt32) :: st) σ c n
  | .lconst k => K (pc + 1) lv (.long (Int64.ofNat (k : Nat)) :: st) σ c n
  | .dconst k => k = 0 ∧ K (pc + 1) lv (.double FP.dconst0 :: st) σ c n
  | .aconst_null => K (pc + 1) lv (.null :: st) σ c n
  | .ldc u => match tg with
      | [v] => K (pc + 2) lv (.int (Int32.ofNat v) :: st) σ c n
      | _ => False
  | .ldc_w u => match tg with
      | [v] => K (pc + 3) lv (.int (Int32.ofNat v) :: st) σ c n
      | _ => False
  | .ldc2_w u => match tg with
      | [v] => K (pc + 3) lv (.long (Int64.ofNat v) :: st) σ c n
      | [v, w] => K (pc + 3) lv (.double (UInt64.ofNat v) :: st) σ c n
      | _ => False
  | .iload i => z_ldi (z_gl lv i) K (pc + 2) lv st σ c n
  | .iload_n i => z_ldi (z_gl lv (i : Nat)) K (pc + 1) lv st σ c n
  | .lload i => z_ldl (z_gl lv i) K (pc + 2) lv st σ c n
  | .lload_n i => z_ldl (z_gl lv (i : Nat)) K (pc + 1) lv st σ c n
  | .aload i => z_lda (z_gl lv i) K (pc + 2) lv st σ c n
  | .aload_n i => z_lda (z_gl lv (i : Nat)) K (pc + 1) lv st σ c n
  | .istore i => z_p1 st fun x r => K (pc + 2) ((i, .int x) :: z_rm lv i) r σ c n
  | .istore_n i => z_p1 st fun x r => K (pc + 1) (((i : Nat), .int x) :: z_rm lv (i : Nat)) r σ c n
  | .lstore i => z_l1 st fun x r => K (pc + 2) ((i, .long x) :: z_rm2 lv i) r σ c n
  | .lstore_n i => z_l1 st fun x r => K (pc + 1) (((i : Nat), .long x) :: z_rm2 lv (i : Nat)) r σ c n
  | .astore i => z_v1 st fun x r => z_rf x ∧ K (pc + 2) ((i, x) :: z_rm lv i) r σ c n
  | .astore_n i => z_v1 st fun x r => z_rf x ∧ K (pc + 1) (((i : Nat), x) :: z_rm lv (i : Nat)) r σ c n
  | .iinc i k => z_inc (z_gl lv i) i k K (pc + 3) lv st σ c n
  | .iadd => z_p2 st fun x y r => K (pc + 1) lv (.int (x + y) :: r) σ c n
  | .isub => z_p2 st fun x y r => K (pc + 1) lv (.int (x - y) :: r) σ c n
  | .imul => z_p2 st fun x y r => K (pc + 1) lv (.int (x * y) :: r) σ c n
  | .iand => z_p2 st fun x y r => K (pc + 1) lv (.int (x &&& y) :: r) σ c n
  | .ior => z_p2 st fun x y r => K (pc + 1) lv (.int (x ||| y) :: r) σ c n
  | .ixor => z_p2 st fun x y r => K (pc + 1) lv (.int (x ^^^ y) :: r) σ c n
  | .ishl => z_p2 st fun x y r => K (pc + 1) lv (.int (x <<< (y &&& 31)) :: r) σ c n
  | .ishr => z_p2 st fun x y r => K (pc + 1) lv (.int (x >>> (y &&& 31)) :: r) σ c n
  | .idiv => z_p2 st fun x y r => ¬ y = 0 ∧ K (pc + 1) lv (.int (x / y) :: r) σ c n
  | .irem => z_p2 st fun x y r => ¬ y = 0 ∧ K (pc + 1) lv (.int (x - x / y * y) :: r) σ c n
  | .ineg => z_p1 st fun x r => K (pc + 1) lv (.int (-x) :: r) σ c n
  | .ladd => z_l2 st fun x y r => K (pc + 1) lv (.long (x + y) :: r) σ c n
  | .lsub => z_l2 st fun x y r => K (pc + 1) lv (.long (x - y) :: r) σ c n
  | .lmul => z_l2 st fun x y r => K (pc + 1) lv (.long (x * y) :: r) σ c n
  | .ldiv => z_l2 st fun x y r => ¬ y = 0 ∧ K (pc + 1) lv (.long (x / y) :: r) σ c n
  | .lcmp => z_l2 st fun x y r => K (pc + 1) lv (.int (lg_cmp x y) :: r) σ c n
  | .i2l => z_p1 st fun x r => K (pc + 1) lv (.long x.toInt64 :: r) σ c n
  | .l2i => z_l1 st fun x r => K (pc + 1) lv (.int x.toInt32 :: r) σ c n
  | .i2d => z_p1 st fun x r => K (pc + 1) lv (.double (FP.i2d x) :: r) σ c n
  | .ddiv => z_d2 st fun x y r => vf_n64 (FP.ddiv x y) ∧ K (pc + 1) lv (.double (FP.ddiv x y) :: r) σ c n
  | .dmul => z_d2 st fun x y r => vf_n64 (FP.dmul x y) ∧ K (pc + 1) lv (.double (FP.dmul x y) :: r) σ c n
  | .dsub => z_d2 st fun x y r => vf_n64 (FP.dsub x y) ∧ K (pc + 1) lv (.double (FP.dsub x y) :: r) σ c n
  | .dcmp op => z_d2 st fun x y r => K (pc + 1) lv (.int (Op.cmpValue (FP.dcmp x y) op) :: r) σ c n
  | .dup => z_v1 st fun x r => x.category = 1 ∧ K (pc + 1) lv (x :: x :: r) σ c n
  | .pop => z_v1 st fun x r => x.category = 1 ∧ K (pc + 1) lv r σ c n
  | .dup_x1 => z_v2 st fun x y r => x.category = 1 ∧ y.category = 1 ∧ K (pc + 1) lv (y :: x :: y :: r) σ c n
  | .dup2 => z_v2 st fun x y r => x.category = 1 ∧ y.category = 1 ∧ K (pc + 1) lv (y :: x :: y :: x :: r) σ c n
  | .goto u => match tg with
      | [t] => K t lv st σ c n
      | _ => False
  | .ifnull u => match tg with
      | [t] => z_v1 st fun x r => z_rf x ∧ (z_o x = none → K t lv r σ c n) ∧ (¬ z_o x = none → K (pc + 3) lv r σ c n)
      | _ => False
  | .ifnonnull u => match tg with
      | [t] => z_v1 st fun x r => z_rf x ∧ (¬ z_o x = none → K t lv r σ c n) ∧ (z_o x = none → K (pc + 3) lv r σ c n)
      | _ => False
  | .getfield u => match tg with
      | [d, k, 1] => z_a1 st fun a r => z_t σ a = d + 1 ∧ K (pc + 3) lv (.int (z_i σ d k a) :: r) σ c n
      | [d, k, 0] => z_a1 st fun a r => z_t σ a = d + 1 ∧ K (pc + 3) lv (va_rf (z_r σ d k a) :: r) σ c n
      | _ => False
  | .putfield u => match tg with
      | [d, k, 1] => z_ia st fun a x r => z_t σ a = d + 1 ∧ K (pc + 3) lv r (z_wi σ d k a x) c n
      | [d, k, 0] => z_va st fun a x r => z_rf x ∧ z_t σ a = d + 1 ∧ K (pc + 3) lv r (z_wr σ d k a (z_o x)) c n
      | _ => False
  | .iaload => z_ia st fun a x r => (z_t σ a = 21 ∨ z_t σ a = 31) ∧ vp_in x (z_n σ a) ∧ K (pc + 1) lv (.int (z_a σ a x.toNatClampNeg) :: r) σ c n
  | .aaload => z_ia st fun a x r => z_ra (z_t σ a) ∧ vp_in x (z_n σ a) ∧ K (pc + 1) lv (va_rf (z_q σ a x.toNatClampNeg) :: r) σ c n
  | .iastore => z_iia st fun a x y r => z_t σ a = 21 ∧ vp_in x (z_n σ a) ∧ K (pc + 1) lv r (z_wa σ a x.toNatClampNeg y) c n
  | .aastore => z_ria st fun a v x r => z_el (z_t σ a) (z_t σ v) = true ∧ vp_in x (z_n σ a) ∧ K (pc + 1) lv r (z_wq σ a x.toNatClampNeg (some v)) c n
  | .getstatic u => ∀ a, z_t σ a = 32 → K (pc + 3) lv (.ref a :: st) σ c n
  | .arraylength => z_a1 st fun a r => (z_t σ a = 21 ∨ z_t σ a = 31 ∨ z_t σ a = 32 ∨ z_ra (z_t σ a)) ∧ K (pc + 1) lv (.int (Int32.ofNat (z_n σ a)) :: r) σ c n
  | .new u => match tg with
      | [d, N] => c + 1 ≤ rc ∧ n + N ≤ rs ∧ K (pc + 3) lv (.ref (z_z σ) :: st) (z_nw σ (d + 1) 0) (c + 1) (n + N)
      | _ => False
  | .newarray u => z_p1 st fun x r => ¬ x < 0 ∧ x.toNatClampNeg ≤ 1000000 ∧ c + 1 ≤ rc ∧ n + x.toNatClampNeg ≤ rs ∧ K (pc + 2) lv (.ref (z_z σ) :: r) (z_nw σ 21 x.toNatClampNeg) (c + 1) (n + x.toNatClampNeg)
  | .anewarray u => match tg with
      | [t] => z_p1 st fun x r => ¬ x < 0 ∧ x.toNatClampNeg ≤ 1000000 ∧ c + 1 ≤ rc ∧ n + x.toNatClampNeg ≤ rs ∧ K (pc + 3) lv (.ref (z_z σ) :: r) (z_nw σ (t + 1) x.toNatClampNeg) (c + 1) (n + x.toNatClampNeg)
      | _ => False
  | .checkcast u => match tg with
      | [d] => z_v1 st fun x r => z_rf x ∧ (∀ a, z_o x = some a → z_t σ a = d + 1) ∧ K (pc + 3) lv (x :: r) σ c n
      | _ => False
  | .invokevirtual u => z_inv (z_fc cl (4 * u)) rc rs K (pc + 3) lv st σ c n
  | .invokespecial u => z_inv (z_fc cl (4 * u + 1)) rc rs K (pc + 3) lv st σ c n
  | .invokestatic u => z_inv (z_fc cl (4 * u + 2)) rc rs K (pc + 3) lv st σ c n
  | .ireturn => z_p1 st fun x r => r = [] ∧ (rk = 2 → x = 0 ∨ x = 1) ∧ po (some (.int x)) σ c n
  | .lreturn => z_l1 st fun x r => r = [] ∧ po (some (.long x)) σ c n
  | .dreturn => z_d1 st fun x r => r = [] ∧ po (some (.double x)) σ c n
  | .areturn => z_v1 st fun x r => r = [] ∧ z_rf x ∧ po (some x) σ c n
  | .return_ => st = [] ∧ po none σ c n
  | .tableswitch d lo hi os => match tg with
      | t :: ts => z_p1 st fun x r => (x.toInt < lo ∨ hi < x.toInt → K t lv r σ c n) ∧ z_sw K lv r σ c n x lo ts
      | _ => False
  | .ifCond cd u => match tg with
      | [t] => match cd with
        | .eq => z_p1 st fun x r => (x = 0 → K t lv r σ c n) ∧ (¬ x = 0 → K (pc + 3) lv r σ c n)
        | .ne => z_p1 st fun x r => (¬ x = 0 → K t lv r σ c n) ∧ (x = 0 → K (pc + 3) lv r σ c n)
        | .lt => z_p1 st fun x r => (x < 0 → K t lv r σ c n) ∧ (¬ x < 0 → K (pc + 3) lv r σ c n)
        | .ge => z_p1 st fun x r => (0 ≤ x → K t lv r σ c n) ∧ (¬ 0 ≤ x → K (pc + 3) lv r σ c n)
        | .gt => z_p1 st fun x r => (0 < x → K t lv r σ c n) ∧ (¬ 0 < x → K (pc + 3) lv r σ c n)
        | .le => z_p1 st fun x r => (x ≤ 0 → K t lv r σ c n) ∧ (¬ x ≤ 0 → K (pc + 3) lv r σ c n)
      | _ => False
  | .if_icmp cd u => match tg with
      | [t] => match cd with
        | .eq => z_p2 st fun x y r => (x = y → K t lv r σ c n) ∧ (¬ x = y → K (pc + 3) lv r σ c n)
        | .ne => z_p2 st fun x y r => (¬ x = y → K t lv r σ c n) ∧ (x = y → K (pc + 3) lv r σ c n)
        | .lt => z_p2 st fun x y r => (x < y → K t lv r σ c n) ∧ (¬ x < y → K (pc + 3) lv r σ c n)
        | .ge => z_p2 st fun x y r => (y ≤ x → K t lv r σ c n) ∧ (¬ y ≤ x → K (pc + 3) lv r σ c n)
        | .gt => z_p2 st fun x y r => (y < x → K t lv r σ c n) ∧ (¬ y < x → K (pc + 3) lv r σ c n)
        | .le => z_p2 st fun x y r => (x ≤ y → K t lv r σ c n) ∧ (¬ x ≤ y → K (pc + 3) lv r σ c n)
      | _ => False
  | .if_acmp cd u => match tg with
      | [t] => match cd with
        | .eq => z_v2 st fun x y r => z_rf x ∧ z_rf y ∧ (z_o x = z_o y → K t lv r σ c n) ∧ (¬ z_o x = z_o y → K (pc + 3) lv r σ c n)
        | .ne => z_v2 st fun x y r => z_rf x ∧ z_rf y ∧ (¬ z_o x = z_o y → K t lv r σ c n) ∧ (z_o x = z_o y → K (pc + 3) lv r σ c n)
      | _ => False
  | _ => False

/-- a row of a method's table: place, instruction, length, what the pool or the offsets say -/
abbrev zR : Type := Nat × Instr × Nat × List Nat
def z_at : List zR → Nat → Option (Instr × List Nat)
  | [], _ => none
  | q :: r, i => if q.1 = i then some (q.2.1, q.2.2.2) else z_at r i
def z_op (q : Option (Instr × List Nat)) (cl : List zC) (po : Option Value → bS → Nat → Nat → Prop) (rc rs : Nat) (rk : Nat) (K : zK) (pc : Nat) (lv : List (Nat × Value)) (st : List Value) (σ : bS) (c n : Nat) : Prop :=
  match q with
  | some q => z_st cl po rc rs rk K q.1 q.2 pc lv st σ c n
  | none => False
def z_hd (T : List zR) (cl : List zC) (po : Option Value → bS → Nat → Nat → Prop) (rc rs : Nat) (rk : Nat) (K : zK) (pc : Nat) (lv : List (Nat × Value)) (st : List Value) (σ : bS) (c n : Nat) : Prop := z_op (z_at T pc) cl po rc rs rk K pc lv st σ c n
/-- the cuts of a walk: where it stops, and the locals that are kept there -/
def z_ck : List (Nat × List Nat) → Nat → Option (List Nat)
  | [], _ => none
  | q :: r, i => if q.1 = i then some q.2 else z_ck r i
def z_cu (q : Option (List Nat)) (K : zK) (h : zK) (pc : Nat) (lv : List (Nat × Value)) (st : List Value) (σ : bS) (c n : Nat) : Prop := match q with
  | some keep => K pc (z_pk lv keep) st σ c n
  | none => h pc lv st σ c n
/-- a stretch: till a cut, where the locals that are kept are named -/
def z_wp (T : List zR) (cl : List zC) (po : Option Value → bS → Nat → Nat → Prop) (rc rs : Nat) (rk : Nat) (cut : List (Nat × List Nat)) (K : zK) : Nat → zK
  | 0 => fun pc lv st σ c n => K pc lv st σ c n
  | f + 1 => fun pc lv st σ c n => z_cu (z_ck cut pc) K (z_hd T cl po rc rs rk (z_wp T cl po rc rs rk cut K f)) pc lv st σ c n
