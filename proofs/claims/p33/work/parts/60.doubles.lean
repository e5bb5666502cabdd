/-! ===== the doubles: the mean times how many is the sum, at every pair that can be ===== -/
def g_decD (s c : Int32) : Decidable (m_dOk s c) := by
  unfold m_dOk vf_n64
  infer_instance
def g_all (c : Nat) : Bool := (List.range (24 * c + 1)).all (fun s => @decide (m_dOk (nI s) (nI c)) (g_decD (nI s) (nI c)))
theorem g_d0 : g_all 0 = true := by decide +kernel
theorem g_d1 : g_all 1 = true := by decide +kernel
theorem g_d2 : g_all 2 = true := by decide +kernel
theorem g_d3 : g_all 3 = true := by decide +kernel
theorem g_d4 : g_all 4 = true := by decide +kernel
theorem g_d5 : g_all 5 = true := by decide +kernel
theorem g_d6 : g_all 6 = true := by decide +kernel
theorem g_d7 : g_all 7 = true := by decide +kernel
theorem g_d8 : g_all 8 = true := by decide +kernel
theorem g_d9 : g_all 9 = true := by decide +kernel
theorem g_d10 : g_all 10 = true := by decide +kernel
theorem g_d11 : g_all 11 = true := by decide +kernel
theorem g_d12 : g_all 12 = true := by decide +kernel
theorem g_d13 : g_all 13 = true := by decide +kernel
theorem g_d14 : g_all 14 = true := by decide +kernel
theorem g_d15 : g_all 15 = true := by decide +kernel
theorem g_d16 : g_all 16 = true := by decide +kernel
theorem g_d17 : g_all 17 = true := by decide +kernel
theorem g_d18 : g_all 18 = true := by decide +kernel
theorem g_d19 : g_all 19 = true := by decide +kernel
theorem g_d20 : g_all 20 = true := by decide +kernel
theorem g_d21 : g_all 21 = true := by decide +kernel
theorem g_d22 : g_all 22 = true := by decide +kernel
theorem g_d23 : g_all 23 = true := by decide +kernel
theorem g_d24 : g_all 24 = true := by decide +kernel
theorem g_d25 : g_all 25 = true := by decide +kernel
theorem g_d26 : g_all 26 = true := by decide +kernel
theorem g_d27 : g_all 27 = true := by decide +kernel
theorem g_d28 : g_all 28 = true := by decide +kernel
theorem g_d29 : g_all 29 = true := by decide +kernel
theorem g_d30 : g_all 30 = true := by decide +kernel
theorem g_d31 : g_all 31 = true := by decide +kernel
theorem g_d32 : g_all 32 = true := by decide +kernel
theorem g_d33 : g_all 33 = true := by decide +kernel
theorem g_d34 : g_all 34 = true := by decide +kernel
theorem g_d35 : g_all 35 = true := by decide +kernel
theorem g_d36 : g_all 36 = true := by decide +kernel
theorem g_d37 : g_all 37 = true := by decide +kernel
theorem g_d38 : g_all 38 = true := by decide +kernel
theorem g_d39 : g_all 39 = true := by decide +kernel
theorem g_d40 : g_all 40 = true := by decide +kernel
theorem g_dOk (c s : Nat) (hc : c < 41) (hs : s < 24 * c + 1) : m_dOk (nI s) (nI c) := by
  have h : g_all c = true := by
    match c, hc with
    | 0, _ => exact g_d0
    | 1, _ => exact g_d1
    | 2, _ => exact g_d2
    | 3, _ => exact g_d3
    | 4, _ => exact g_d4
    | 5, _ => exact g_d5
    | 6, _ => exact g_d6
    | 7, _ => exact g_d7
    | 8, _ => exact g_d8
    | 9, _ => exact g_d9
    | 10, _ => exact g_d10
    | 11, _ => exact g_d11
    | 12, _ => exact g_d12
    | 13, _ => exact g_d13
    | 14, _ => exact g_d14
    | 15, _ => exact g_d15
    | 16, _ => exact g_d16
    | 17, _ => exact g_d17
    | 18, _ => exact g_d18
    | 19, _ => exact g_d19
    | 20, _ => exact g_d20
    | 21, _ => exact g_d21
    | 22, _ => exact g_d22
    | 23, _ => exact g_d23
    | 24, _ => exact g_d24
    | 25, _ => exact g_d25
    | 26, _ => exact g_d26
    | 27, _ => exact g_d27
    | 28, _ => exact g_d28
    | 29, _ => exact g_d29
    | 30, _ => exact g_d30
    | 31, _ => exact g_d31
    | 32, _ => exact g_d32
    | 33, _ => exact g_d33
    | 34, _ => exact g_d34
    | 35, _ => exact g_d35
    | 36, _ => exact g_d36
    | 37, _ => exact g_d37
    | 38, _ => exact g_d38
    | 39, _ => exact g_d39
    | 40, _ => exact g_d40
    | n + 41, h => omega
  unfold g_all at h
  have h2 := List.all_eq_true.mp h s (List.mem_range.mpr hs)
  exact @of_decide_eq_true _ (g_decD (nI s) (nI c)) h2
