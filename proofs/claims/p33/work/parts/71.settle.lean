/-! ===== settling ===== -/
theorem g_paid {c s a : Nat} (hc : c ≤ 100000) (hs : s ≤ a) (ha : 0 < a) (ha2 : a ≤ 100000) : ((nI c).toInt64 * (nI s).toInt64 / (nI a).toInt64).toInt32 = nI (c * s / a) := by
  have h1 : c * s ≤ 100000 * 100000 := Nat.mul_le_mul hc (by omega)
  have h2 : c * s / a ≤ c := by
    have : c * s ≤ c * a := Nat.mul_le_mul (Nat.le_refl c) hs
    calc c * s / a ≤ c * a / a := Nat.div_le_div_right this
      _ = c := Nat.mul_div_cancel c ha
  apply Int32.toInt_inj.mp
  have em : ((nI c).toInt64 * (nI s).toInt64).toInt = ((c * s : Nat) : Int) := by
    rw [Int64.toInt_mul, Int32.toInt_toInt64, Int32.toInt_toInt64, nI_toInt (by omega), nI_toInt (by omega), ← Int.natCast_mul, Int.bmod_def]
    have e : ((2 ^ 64 : Nat) : Int) = 18446744073709551616 := by decide
    rw [e]
    split <;> omega
  rw [nI_toInt (by omega), Int64.toInt_toInt32, Int64.toInt_div, em, Int32.toInt_toInt64, nI_toInt (by omega)]
  have ed : ((c * s : Nat) : Int).tdiv ((a : Nat) : Int) = ((c * s / a : Nat) : Int) := by
    rw [Int.ofNat_tdiv]
  rw [ed]
  generalize c * s / a = q at h2
  have e64 : ((q : Nat) : Int).bmod (2 ^ 64) = ((q : Nat) : Int) := by
    rw [Int.bmod_def]
    have e : ((2 ^ 64 : Nat) : Int) = 18446744073709551616 := by decide
    rw [e]
    split <;> omega
  have e32 : ((q : Nat) : Int).bmod (2 ^ 32) = ((q : Nat) : Int) := by
    rw [Int.bmod_def]
    have e : ((2 ^ 32 : Nat) : Int) = 4294967296 := by decide
    rw [e]
    split <;> omega
  rw [e64, e32]
