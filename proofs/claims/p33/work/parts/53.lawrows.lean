/-! ===== the law's tables row by row ===== -/
set_option maxRecDepth 100000 in
theorem hL_below_0 (cl : List zC) (po : Option Value → bS → Nat → Nat → Prop) (rc rs rk : Nat) (K : zK) (lv : List (Nat × Value)) (st : List Value) (σ : bS) (c n : Nat) : z_hd tL_below cl po rc rs rk K 0 lv st σ c n = z_st cl po rc rs rk K (.iload_n 0) [] 0 lv st σ c n := (rfl)
set_option maxRecDepth 100000 in
theorem hL_below_1 (cl : List zC) (po : Option Value → bS → Nat → Nat → Prop) (rc rs rk : Nat) (K : zK) (lv : List (Nat × Value)) (st : List Value) (σ : bS) (c n : Nat) : z_hd tL_below cl po rc rs rk K 1 lv st σ c n = z_st cl po rc rs rk K (.ldc 7) [2147483647] 1 lv st σ c n := (rfl)
set_option maxRecDepth 100000 in
theorem hL_below_3 (cl : List zC) (po : Option Value → bS → Nat → Nat → Prop) (rc rs rk : Nat) (K : zK) (lv : List (Nat × Value)) (st : List Value) (σ : bS) (c n : Nat) : z_hd tL_below cl po rc rs rk K 3 lv st σ c n = z_st cl po rc rs rk K (.iand) [] 3 lv st σ c n := (rfl)
set_option maxRecDepth 100000 in
theorem hL_below_4 (cl : List zC) (po : Option Value → bS → Nat → Nat → Prop) (rc rs rk : Nat) (K : zK) (lv : List (Nat × Value)) (st : List Value) (σ : bS) (c n : Nat) : z_hd tL_below cl po rc rs rk K 4 lv st σ c n = z_st cl po rc rs rk K (.iload_n 1) [] 4 lv st σ c n := (rfl)
set_option maxRecDepth 100000 in
theorem hL_below_5 (cl : List zC) (po : Option Value → bS → Nat → Nat → Prop) (rc rs rk : Nat) (K : zK) (lv : List (Nat × Value)) (st : List Value) (σ : bS) (c n : Nat) : z_hd tL_below cl po rc rs rk K 5 lv st σ c n = z_st cl po rc rs rk K (.irem) [] 5 lv st σ c n := (rfl)
set_option maxRecDepth 100000 in
theorem hL_below_6 (cl : List zC) (po : Option Value → bS → Nat → Nat → Prop) (rc rs rk : Nat) (K : zK) (lv : List (Nat × Value)) (st : List Value) (σ : bS) (c n : Nat) : z_hd tL_below cl po rc rs rk K 6 lv st σ c n = z_st cl po rc rs rk K (.ireturn) [] 6 lv st σ c n := (rfl)
set_option maxRecDepth 100000 in
theorem hL_cell_0 (cl : List zC) (po : Option Value → bS → Nat → Nat → Prop) (rc rs rk : Nat) (K : zK) (lv : List (Nat × Value)) (st : List Value) (σ : bS) (c n : Nat) : z_hd tL_cell cl po rc rs rk K 0 lv st σ c n = z_st cl po rc rs rk K (.iload_n 1) [] 0 lv st σ c n := (rfl)
set_option maxRecDepth 100000 in
theorem hL_cell_1 (cl : List zC) (po : Option Value → bS → Nat → Nat → Prop) (rc rs rk : Nat) (K : zK) (lv : List (Nat × Value)) (st : List Value) (σ : bS) (c n : Nat) : z_hd tL_cell cl po rc rs rk K 1 lv st σ c n = z_st cl po rc rs rk K (.aload_n 0) [] 1 lv st σ c n := (rfl)
set_option maxRecDepth 100000 in
theorem hL_cell_2 (cl : List zC) (po : Option Value → bS → Nat → Nat → Prop) (rc rs rk : Nat) (K : zK) (lv : List (Nat × Value)) (st : List Value) (σ : bS) (c n : Nat) : z_hd tL_cell cl po rc rs rk K 2 lv st σ c n = z_st cl po rc rs rk K (.arraylength) [] 2 lv st σ c n := (rfl)
set_option maxRecDepth 100000 in
theorem hL_cell_3 (cl : List zC) (po : Option Value → bS → Nat → Nat → Prop) (rc rs rk : Nat) (K : zK) (lv : List (Nat × Value)) (st : List Value) (σ : bS) (c n : Nat) : z_hd tL_cell cl po rc rs rk K 3 lv st σ c n = z_st cl po rc rs rk K (.if_icmp .ge 9) [12] 3 lv st σ c n := (rfl)
set_option maxRecDepth 100000 in
theorem hL_cell_6 (cl : List zC) (po : Option Value → bS → Nat → Nat → Prop) (rc rs rk : Nat) (K : zK) (lv : List (Nat × Value)) (st : List Value) (σ : bS) (c n : Nat) : z_hd tL_cell cl po rc rs rk K 6 lv st σ c n = z_st cl po rc rs rk K (.aload_n 0) [] 6 lv st σ c n := (rfl)
set_option maxRecDepth 100000 in
theorem hL_cell_7 (cl : List zC) (po : Option Value → bS → Nat → Nat → Prop) (rc rs rk : Nat) (K : zK) (lv : List (Nat × Value)) (st : List Value) (σ : bS) (c n : Nat) : z_hd tL_cell cl po rc rs rk K 7 lv st σ c n = z_st cl po rc rs rk K (.iload_n 1) [] 7 lv st σ c n := (rfl)
set_option maxRecDepth 100000 in
theorem hL_cell_8 (cl : List zC) (po : Option Value → bS → Nat → Nat → Prop) (rc rs rk : Nat) (K : zK) (lv : List (Nat × Value)) (st : List Value) (σ : bS) (c n : Nat) : z_hd tL_cell cl po rc rs rk K 8 lv st σ c n = z_st cl po rc rs rk K (.iaload) [] 8 lv st σ c n := (rfl)
set_option maxRecDepth 100000 in
theorem hL_cell_9 (cl : List zC) (po : Option Value → bS → Nat → Nat → Prop) (rc rs rk : Nat) (K : zK) (lv : List (Nat × Value)) (st : List Value) (σ : bS) (c n : Nat) : z_hd tL_cell cl po rc rs rk K 9 lv st σ c n = z_st cl po rc rs rk K (.goto 9) [18] 9 lv st σ c n := (rfl)
set_option maxRecDepth 100000 in
theorem hL_cell_12 (cl : List zC) (po : Option Value → bS → Nat → Nat → Prop) (rc rs rk : Nat) (K : zK) (lv : List (Nat × Value)) (st : List Value) (σ : bS) (c n : Nat) : z_hd tL_cell cl po rc rs rk K 12 lv st σ c n = z_st cl po rc rs rk K (.ldc 8) [790386105] 12 lv st σ c n := (rfl)
set_option maxRecDepth 100000 in
theorem hL_cell_14 (cl : List zC) (po : Option Value → bS → Nat → Nat → Prop) (rc rs rk : Nat) (K : zK) (lv : List (Nat × Value)) (st : List Value) (σ : bS) (c n : Nat) : z_hd tL_cell cl po rc rs rk K 14 lv st σ c n = z_st cl po rc rs rk K (.iload_n 1) [] 14 lv st σ c n := (rfl)
set_option maxRecDepth 100000 in
theorem hL_cell_15 (cl : List zC) (po : Option Value → bS → Nat → Nat → Prop) (rc rs rk : Nat) (K : zK) (lv : List (Nat × Value)) (st : List Value) (σ : bS) (c n : Nat) : z_hd tL_cell cl po rc rs rk K 15 lv st σ c n = z_st cl po rc rs rk K (.iconst 3) [] 15 lv st σ c n := (rfl)
set_option maxRecDepth 100000 in
theorem hL_cell_16 (cl : List zC) (po : Option Value → bS → Nat → Nat → Prop) (rc rs rk : Nat) (K : zK) (lv : List (Nat × Value)) (st : List Value) (σ : bS) (c n : Nat) : z_hd tL_cell cl po rc rs rk K 16 lv st σ c n = z_st cl po rc rs rk K (.iadd) [] 16 lv st σ c n := (rfl)
set_option maxRecDepth 100000 in
theorem hL_cell_17 (cl : List zC) (po : Option Value → bS → Nat → Nat → Prop) (rc rs rk : Nat) (K : zK) (lv : List (Nat × Value)) (st : List Value) (σ : bS) (c n : Nat) : z_hd tL_cell cl po rc rs rk K 17 lv st σ c n = z_st cl po rc rs rk K (.imul) [] 17 lv st σ c n := (rfl)
set_option maxRecDepth 100000 in
theorem hL_cell_18 (cl : List zC) (po : Option Value → bS → Nat → Nat → Prop) (rc rs rk : Nat) (K : zK) (lv : List (Nat × Value)) (st : List Value) (σ : bS) (c n : Nat) : z_hd tL_cell cl po rc rs rk K 18 lv st σ c n = z_st cl po rc rs rk K (.ireturn) [] 18 lv st σ c n := (rfl)
set_option maxRecDepth 100000 in
theorem hL_law_0 (cl : List zC) (po : Option Value → bS → Nat → Nat → Prop) (rc rs rk : Nat) (K : zK) (lv : List (Nat × Value)) (st : List Value) (σ : bS) (c n : Nat) : z_hd tL_law cl po rc rs rk K 0 lv st σ c n = z_st cl po rc rs rk K (.new 9) [7, 7] 0 lv st σ c n := (rfl)
set_option maxRecDepth 100000 in
theorem hL_law_3 (cl : List zC) (po : Option Value → bS → Nat → Nat → Prop) (rc rs rk : Nat) (K : zK) (lv : List (Nat × Value)) (st : List Value) (σ : bS) (c n : Nat) : z_hd tL_law cl po rc rs rk K 3 lv st σ c n = z_st cl po rc rs rk K (.dup) [] 3 lv st σ c n := (rfl)
set_option maxRecDepth 100000 in
theorem hL_law_4 (cl : List zC) (po : Option Value → bS → Nat → Nat → Prop) (rc rs rk : Nat) (K : zK) (lv : List (Nat × Value)) (st : List Value) (σ : bS) (c n : Nat) : z_hd tL_law cl po rc rs rk K 4 lv st σ c n = z_st cl po rc rs rk K (.invokespecial 11) [] 4 lv st σ c n := (rfl)
set_option maxRecDepth 100000 in
theorem hL_law_7 (cl : List zC) (po : Option Value → bS → Nat → Nat → Prop) (rc rs rk : Nat) (K : zK) (lv : List (Nat × Value)) (st : List Value) (σ : bS) (c n : Nat) : z_hd tL_law cl po rc rs rk K 7 lv st σ c n = z_st cl po rc rs rk K (.astore_n 1) [] 7 lv st σ c n := (rfl)
set_option maxRecDepth 100000 in
theorem hL_law_8 (cl : List zC) (po : Option Value → bS → Nat → Nat → Prop) (rc rs rk : Nat) (K : zK) (lv : List (Nat × Value)) (st : List Value) (σ : bS) (c n : Nat) : z_hd tL_law cl po rc rs rk K 8 lv st σ c n = z_st cl po rc rs rk K (.iconst 0) [] 8 lv st σ c n := (rfl)
set_option maxRecDepth 100000 in
theorem hL_law_9 (cl : List zC) (po : Option Value → bS → Nat → Nat → Prop) (rc rs rk : Nat) (K : zK) (lv : List (Nat × Value)) (st : List Value) (σ : bS) (c n : Nat) : z_hd tL_law cl po rc rs rk K 9 lv st σ c n = z_st cl po rc rs rk K (.istore_n 2) [] 9 lv st σ c n := (rfl)
set_option maxRecDepth 100000 in
theorem hL_law_10 (cl : List zC) (po : Option Value → bS → Nat → Nat → Prop) (rc rs rk : Nat) (K : zK) (lv : List (Nat × Value)) (st : List Value) (σ : bS) (c n : Nat) : z_hd tL_law cl po rc rs rk K 10 lv st σ c n = z_st cl po rc rs rk K (.iload_n 2) [] 10 lv st σ c n := (rfl)
set_option maxRecDepth 100000 in
theorem hL_law_11 (cl : List zC) (po : Option Value → bS → Nat → Nat → Prop) (rc rs rk : Nat) (K : zK) (lv : List (Nat × Value)) (st : List Value) (σ : bS) (c n : Nat) : z_hd tL_law cl po rc rs rk K 11 lv st σ c n = z_st cl po rc rs rk K (.iconst 4) [] 11 lv st σ c n := (rfl)
set_option maxRecDepth 100000 in
theorem hL_law_12 (cl : List zC) (po : Option Value → bS → Nat → Nat → Prop) (rc rs rk : Nat) (K : zK) (lv : List (Nat × Value)) (st : List Value) (σ : bS) (c n : Nat) : z_hd tL_law cl po rc rs rk K 12 lv st σ c n = z_st cl po rc rs rk K (.if_icmp .ge 45) [57] 12 lv st σ c n := (rfl)
set_option maxRecDepth 100000 in
theorem hL_law_15 (cl : List zC) (po : Option Value → bS → Nat → Nat → Prop) (rc rs rk : Nat) (K : zK) (lv : List (Nat × Value)) (st : List Value) (σ : bS) (c n : Nat) : z_hd tL_law cl po rc rs rk K 15 lv st σ c n = z_st cl po rc rs rk K (.aload_n 1) [] 15 lv st σ c n := (rfl)
set_option maxRecDepth 100000 in
theorem hL_law_16 (cl : List zC) (po : Option Value → bS → Nat → Nat → Prop) (rc rs rk : Nat) (K : zK) (lv : List (Nat × Value)) (st : List Value) (σ : bS) (c n : Nat) : z_hd tL_law cl po rc rs rk K 16 lv st σ c n = z_st cl po rc rs rk K (.iload_n 2) [] 16 lv st σ c n := (rfl)
set_option maxRecDepth 100000 in
theorem hL_law_17 (cl : List zC) (po : Option Value → bS → Nat → Nat → Prop) (rc rs rk : Nat) (K : zK) (lv : List (Nat × Value)) (st : List Value) (σ : bS) (c n : Nat) : z_hd tL_law cl po rc rs rk K 17 lv st σ c n = z_st cl po rc rs rk K (.aload_n 0) [] 17 lv st σ c n := (rfl)
set_option maxRecDepth 100000 in
theorem hL_law_18 (cl : List zC) (po : Option Value → bS → Nat → Nat → Prop) (rc rs rk : Nat) (K : zK) (lv : List (Nat × Value)) (st : List Value) (σ : bS) (c n : Nat) : z_hd tL_law cl po rc rs rk K 18 lv st σ c n = z_st cl po rc rs rk K (.iload_n 2) [] 18 lv st σ c n := (rfl)
set_option maxRecDepth 100000 in
theorem hL_law_19 (cl : List zC) (po : Option Value → bS → Nat → Nat → Prop) (rc rs rk : Nat) (K : zK) (lv : List (Nat × Value)) (st : List Value) (σ : bS) (c n : Nat) : z_hd tL_law cl po rc rs rk K 19 lv st σ c n = z_st cl po rc rs rk K (.invokestatic 12) [] 19 lv st σ c n := (rfl)
set_option maxRecDepth 100000 in
theorem hL_law_22 (cl : List zC) (po : Option Value → bS → Nat → Nat → Prop) (rc rs rk : Nat) (K : zK) (lv : List (Nat × Value)) (st : List Value) (σ : bS) (c n : Nat) : z_hd tL_law cl po rc rs rk K 22 lv st σ c n = z_st cl po rc rs rk K (.iconst 4) [] 22 lv st σ c n := (rfl)
set_option maxRecDepth 100000 in
theorem hL_law_23 (cl : List zC) (po : Option Value → bS → Nat → Nat → Prop) (rc rs rk : Nat) (K : zK) (lv : List (Nat × Value)) (st : List Value) (σ : bS) (c n : Nat) : z_hd tL_law cl po rc rs rk K 23 lv st σ c n = z_st cl po rc rs rk K (.invokestatic 18) [] 23 lv st σ c n := (rfl)
set_option maxRecDepth 100000 in
theorem hL_law_26 (cl : List zC) (po : Option Value → bS → Nat → Nat → Prop) (rc rs rk : Nat) (K : zK) (lv : List (Nat × Value)) (st : List Value) (σ : bS) (c n : Nat) : z_hd tL_law cl po rc rs rk K 26 lv st σ c n = z_st cl po rc rs rk K (.ifCond .ne 18) [44] 26 lv st σ c n := (rfl)
set_option maxRecDepth 100000 in
theorem hL_law_29 (cl : List zC) (po : Option Value → bS → Nat → Nat → Prop) (rc rs rk : Nat) (K : zK) (lv : List (Nat × Value)) (st : List Value) (σ : bS) (c n : Nat) : z_hd tL_law cl po rc rs rk K 29 lv st σ c n = z_st cl po rc rs rk K (.aload_n 0) [] 29 lv st σ c n := (rfl)
set_option maxRecDepth 100000 in
theorem hL_law_30 (cl : List zC) (po : Option Value → bS → Nat → Nat → Prop) (rc rs rk : Nat) (K : zK) (lv : List (Nat × Value)) (st : List Value) (σ : bS) (c n : Nat) : z_hd tL_law cl po rc rs rk K 30 lv st σ c n = z_st cl po rc rs rk K (.iload_n 2) [] 30 lv st σ c n := (rfl)
set_option maxRecDepth 100000 in
theorem hL_law_31 (cl : List zC) (po : Option Value → bS → Nat → Nat → Prop) (rc rs rk : Nat) (K : zK) (lv : List (Nat × Value)) (st : List Value) (σ : bS) (c n : Nat) : z_hd tL_law cl po rc rs rk K 31 lv st σ c n = z_st cl po rc rs rk K (.invokestatic 12) [] 31 lv st σ c n := (rfl)
set_option maxRecDepth 100000 in
theorem hL_law_34 (cl : List zC) (po : Option Value → bS → Nat → Nat → Prop) (rc rs rk : Nat) (K : zK) (lv : List (Nat × Value)) (st : List Value) (σ : bS) (c n : Nat) : z_hd tL_law cl po rc rs rk K 34 lv st σ c n = z_st cl po rc rs rk K (.iconst 2) [] 34 lv st σ c n := (rfl)
set_option maxRecDepth 100000 in
theorem hL_law_35 (cl : List zC) (po : Option Value → bS → Nat → Nat → Prop) (rc rs rk : Nat) (K : zK) (lv : List (Nat × Value)) (st : List Value) (σ : bS) (c n : Nat) : z_hd tL_law cl po rc rs rk K 35 lv st σ c n = z_st cl po rc rs rk K (.ishr) [] 35 lv st σ c n := (rfl)
set_option maxRecDepth 100000 in
theorem hL_law_36 (cl : List zC) (po : Option Value → bS → Nat → Nat → Prop) (rc rs rk : Nat) (K : zK) (lv : List (Nat × Value)) (st : List Value) (σ : bS) (c n : Nat) : z_hd tL_law cl po rc rs rk K 36 lv st σ c n = z_st cl po rc rs rk K (.bipush 64) [] 36 lv st σ c n := (rfl)
set_option maxRecDepth 100000 in
theorem hL_law_38 (cl : List zC) (po : Option Value → bS → Nat → Nat → Prop) (rc rs rk : Nat) (K : zK) (lv : List (Nat × Value)) (st : List Value) (σ : bS) (c n : Nat) : z_hd tL_law cl po rc rs rk K 38 lv st σ c n = z_st cl po rc rs rk K (.invokestatic 18) [] 38 lv st σ c n := (rfl)
set_option maxRecDepth 100000 in
theorem hL_law_41 (cl : List zC) (po : Option Value → bS → Nat → Nat → Prop) (rc rs rk : Nat) (K : zK) (lv : List (Nat × Value)) (st : List Value) (σ : bS) (c n : Nat) : z_hd tL_law cl po rc rs rk K 41 lv st σ c n = z_st cl po rc rs rk K (.goto 6) [47] 41 lv st σ c n := (rfl)
set_option maxRecDepth 100000 in
theorem hL_law_44 (cl : List zC) (po : Option Value → bS → Nat → Nat → Prop) (rc rs rk : Nat) (K : zK) (lv : List (Nat × Value)) (st : List Value) (σ : bS) (c n : Nat) : z_hd tL_law cl po rc rs rk K 44 lv st σ c n = z_st cl po rc rs rk K (.iconst 1) [] 44 lv st σ c n := (rfl)
set_option maxRecDepth 100000 in
theorem hL_law_45 (cl : List zC) (po : Option Value → bS → Nat → Nat → Prop) (rc rs rk : Nat) (K : zK) (lv : List (Nat × Value)) (st : List Value) (σ : bS) (c n : Nat) : z_hd tL_law cl po rc rs rk K 45 lv st σ c n = z_st cl po rc rs rk K (.iload_n 2) [] 45 lv st σ c n := (rfl)
set_option maxRecDepth 100000 in
theorem hL_law_46 (cl : List zC) (po : Option Value → bS → Nat → Nat → Prop) (rc rs rk : Nat) (K : zK) (lv : List (Nat × Value)) (st : List Value) (σ : bS) (c n : Nat) : z_hd tL_law cl po rc rs rk K 46 lv st σ c n = z_st cl po rc rs rk K (.ishl) [] 46 lv st σ c n := (rfl)
set_option maxRecDepth 100000 in
theorem hL_law_47 (cl : List zC) (po : Option Value → bS → Nat → Nat → Prop) (rc rs rk : Nat) (K : zK) (lv : List (Nat × Value)) (st : List Value) (σ : bS) (c n : Nat) : z_hd tL_law cl po rc rs rk K 47 lv st σ c n = z_st cl po rc rs rk K (.invokevirtual 22) [] 47 lv st σ c n := (rfl)
set_option maxRecDepth 100000 in
theorem hL_law_50 (cl : List zC) (po : Option Value → bS → Nat → Nat → Prop) (rc rs rk : Nat) (K : zK) (lv : List (Nat × Value)) (st : List Value) (σ : bS) (c n : Nat) : z_hd tL_law cl po rc rs rk K 50 lv st σ c n = z_st cl po rc rs rk K (.pop) [] 50 lv st σ c n := (rfl)
set_option maxRecDepth 100000 in
theorem hL_law_51 (cl : List zC) (po : Option Value → bS → Nat → Nat → Prop) (rc rs rk : Nat) (K : zK) (lv : List (Nat × Value)) (st : List Value) (σ : bS) (c n : Nat) : z_hd tL_law cl po rc rs rk K 51 lv st σ c n = z_st cl po rc rs rk K (.iinc 2 1) [] 51 lv st σ c n := (rfl)
set_option maxRecDepth 100000 in
theorem hL_law_54 (cl : List zC) (po : Option Value → bS → Nat → Nat → Prop) (rc rs rk : Nat) (K : zK) (lv : List (Nat × Value)) (st : List Value) (σ : bS) (c n : Nat) : z_hd tL_law cl po rc rs rk K 54 lv st σ c n = z_st cl po rc rs rk K (.goto (-44)) [10] 54 lv st σ c n := (rfl)
set_option maxRecDepth 100000 in
theorem hL_law_57 (cl : List zC) (po : Option Value → bS → Nat → Nat → Prop) (rc rs rk : Nat) (K : zK) (lv : List (Nat × Value)) (st : List Value) (σ : bS) (c n : Nat) : z_hd tL_law cl po rc rs rk K 57 lv st σ c n = z_st cl po rc rs rk K (.iconst 0) [] 57 lv st σ c n := (rfl)
set_option maxRecDepth 100000 in
theorem hL_law_58 (cl : List zC) (po : Option Value → bS → Nat → Nat → Prop) (rc rs rk : Nat) (K : zK) (lv : List (Nat × Value)) (st : List Value) (σ : bS) (c n : Nat) : z_hd tL_law cl po rc rs rk K 58 lv st σ c n = z_st cl po rc rs rk K (.istore_n 2) [] 58 lv st σ c n := (rfl)
set_option maxRecDepth 100000 in
theorem hL_law_59 (cl : List zC) (po : Option Value → bS → Nat → Nat → Prop) (rc rs rk : Nat) (K : zK) (lv : List (Nat × Value)) (st : List Value) (σ : bS) (c n : Nat) : z_hd tL_law cl po rc rs rk K 59 lv st σ c n = z_st cl po rc rs rk K (.iload_n 2) [] 59 lv st σ c n := (rfl)
set_option maxRecDepth 100000 in
theorem hL_law_60 (cl : List zC) (po : Option Value → bS → Nat → Nat → Prop) (rc rs rk : Nat) (K : zK) (lv : List (Nat × Value)) (st : List Value) (σ : bS) (c n : Nat) : z_hd tL_law cl po rc rs rk K 60 lv st σ c n = z_st cl po rc rs rk K (.bipush 6) [] 60 lv st σ c n := (rfl)
set_option maxRecDepth 100000 in
theorem hL_law_62 (cl : List zC) (po : Option Value → bS → Nat → Nat → Prop) (rc rs rk : Nat) (K : zK) (lv : List (Nat × Value)) (st : List Value) (σ : bS) (c n : Nat) : z_hd tL_law cl po rc rs rk K 62 lv st σ c n = z_st cl po rc rs rk K (.if_icmp .ge 43) [105] 62 lv st σ c n := (rfl)
set_option maxRecDepth 100000 in
theorem hL_law_65 (cl : List zC) (po : Option Value → bS → Nat → Nat → Prop) (rc rs rk : Nat) (K : zK) (lv : List (Nat × Value)) (st : List Value) (σ : bS) (c n : Nat) : z_hd tL_law cl po rc rs rk K 65 lv st σ c n = z_st cl po rc rs rk K (.aload_n 1) [] 65 lv st σ c n := (rfl)
set_option maxRecDepth 100000 in
theorem hL_law_66 (cl : List zC) (po : Option Value → bS → Nat → Nat → Prop) (rc rs rk : Nat) (K : zK) (lv : List (Nat × Value)) (st : List Value) (σ : bS) (c n : Nat) : z_hd tL_law cl po rc rs rk K 66 lv st σ c n = z_st cl po rc rs rk K (.iload_n 2) [] 66 lv st σ c n := (rfl)
set_option maxRecDepth 100000 in
theorem hL_law_67 (cl : List zC) (po : Option Value → bS → Nat → Nat → Prop) (rc rs rk : Nat) (K : zK) (lv : List (Nat × Value)) (st : List Value) (σ : bS) (c n : Nat) : z_hd tL_law cl po rc rs rk K 67 lv st σ c n = z_st cl po rc rs rk K (.aload_n 0) [] 67 lv st σ c n := (rfl)
set_option maxRecDepth 100000 in
theorem hL_law_68 (cl : List zC) (po : Option Value → bS → Nat → Nat → Prop) (rc rs rk : Nat) (K : zK) (lv : List (Nat × Value)) (st : List Value) (σ : bS) (c n : Nat) : z_hd tL_law cl po rc rs rk K 68 lv st σ c n = z_st cl po rc rs rk K (.iconst 4) [] 68 lv st σ c n := (rfl)
set_option maxRecDepth 100000 in
theorem hL_law_69 (cl : List zC) (po : Option Value → bS → Nat → Nat → Prop) (rc rs rk : Nat) (K : zK) (lv : List (Nat × Value)) (st : List Value) (σ : bS) (c n : Nat) : z_hd tL_law cl po rc rs rk K 69 lv st σ c n = z_st cl po rc rs rk K (.invokestatic 12) [] 69 lv st σ c n := (rfl)
set_option maxRecDepth 100000 in
theorem hL_law_72 (cl : List zC) (po : Option Value → bS → Nat → Nat → Prop) (rc rs rk : Nat) (K : zK) (lv : List (Nat × Value)) (st : List Value) (σ : bS) (c n : Nat) : z_hd tL_law cl po rc rs rk K 72 lv st σ c n = z_st cl po rc rs rk K (.iconst 2) [] 72 lv st σ c n := (rfl)
set_option maxRecDepth 100000 in
theorem hL_law_73 (cl : List zC) (po : Option Value → bS → Nat → Nat → Prop) (rc rs rk : Nat) (K : zK) (lv : List (Nat × Value)) (st : List Value) (σ : bS) (c n : Nat) : z_hd tL_law cl po rc rs rk K 73 lv st σ c n = z_st cl po rc rs rk K (.invokestatic 18) [] 73 lv st σ c n := (rfl)
set_option maxRecDepth 100000 in
theorem hL_law_76 (cl : List zC) (po : Option Value → bS → Nat → Nat → Prop) (rc rs rk : Nat) (K : zK) (lv : List (Nat × Value)) (st : List Value) (σ : bS) (c n : Nat) : z_hd tL_law cl po rc rs rk K 76 lv st σ c n = z_st cl po rc rs rk K (.ifCond .ne 18) [94] 76 lv st σ c n := (rfl)
set_option maxRecDepth 100000 in
theorem hL_law_79 (cl : List zC) (po : Option Value → bS → Nat → Nat → Prop) (rc rs rk : Nat) (K : zK) (lv : List (Nat × Value)) (st : List Value) (σ : bS) (c n : Nat) : z_hd tL_law cl po rc rs rk K 79 lv st σ c n = z_st cl po rc rs rk K (.aload_n 0) [] 79 lv st σ c n := (rfl)
set_option maxRecDepth 100000 in
theorem hL_law_80 (cl : List zC) (po : Option Value → bS → Nat → Nat → Prop) (rc rs rk : Nat) (K : zK) (lv : List (Nat × Value)) (st : List Value) (σ : bS) (c n : Nat) : z_hd tL_law cl po rc rs rk K 80 lv st σ c n = z_st cl po rc rs rk K (.iconst 4) [] 80 lv st σ c n := (rfl)
set_option maxRecDepth 100000 in
theorem hL_law_81 (cl : List zC) (po : Option Value → bS → Nat → Nat → Prop) (rc rs rk : Nat) (K : zK) (lv : List (Nat × Value)) (st : List Value) (σ : bS) (c n : Nat) : z_hd tL_law cl po rc rs rk K 81 lv st σ c n = z_st cl po rc rs rk K (.invokestatic 12) [] 81 lv st σ c n := (rfl)
set_option maxRecDepth 100000 in
theorem hL_law_84 (cl : List zC) (po : Option Value → bS → Nat → Nat → Prop) (rc rs rk : Nat) (K : zK) (lv : List (Nat × Value)) (st : List Value) (σ : bS) (c n : Nat) : z_hd tL_law cl po rc rs rk K 84 lv st σ c n = z_st cl po rc rs rk K (.iload_n 2) [] 84 lv st σ c n := (rfl)
set_option maxRecDepth 100000 in
theorem hL_law_85 (cl : List zC) (po : Option Value → bS → Nat → Nat → Prop) (rc rs rk : Nat) (K : zK) (lv : List (Nat × Value)) (st : List Value) (σ : bS) (c n : Nat) : z_hd tL_law cl po rc rs rk K 85 lv st σ c n = z_st cl po rc rs rk K (.ishr) [] 85 lv st σ c n := (rfl)
set_option maxRecDepth 100000 in
theorem hL_law_86 (cl : List zC) (po : Option Value → bS → Nat → Nat → Prop) (rc rs rk : Nat) (K : zK) (lv : List (Nat × Value)) (st : List Value) (σ : bS) (c n : Nat) : z_hd tL_law cl po rc rs rk K 86 lv st σ c n = z_st cl po rc rs rk K (.bipush 10) [] 86 lv st σ c n := (rfl)
set_option maxRecDepth 100000 in
theorem hL_law_88 (cl : List zC) (po : Option Value → bS → Nat → Nat → Prop) (rc rs rk : Nat) (K : zK) (lv : List (Nat × Value)) (st : List Value) (σ : bS) (c n : Nat) : z_hd tL_law cl po rc rs rk K 88 lv st σ c n = z_st cl po rc rs rk K (.invokestatic 18) [] 88 lv st σ c n := (rfl)
set_option maxRecDepth 100000 in
theorem hL_law_91 (cl : List zC) (po : Option Value → bS → Nat → Nat → Prop) (rc rs rk : Nat) (K : zK) (lv : List (Nat × Value)) (st : List Value) (σ : bS) (c n : Nat) : z_hd tL_law cl po rc rs rk K 91 lv st σ c n = z_st cl po rc rs rk K (.goto 4) [95] 91 lv st σ c n := (rfl)
set_option maxRecDepth 100000 in
theorem hL_law_94 (cl : List zC) (po : Option Value → bS → Nat → Nat → Prop) (rc rs rk : Nat) (K : zK) (lv : List (Nat × Value)) (st : List Value) (σ : bS) (c n : Nat) : z_hd tL_law cl po rc rs rk K 94 lv st σ c n = z_st cl po rc rs rk K (.iconst 0) [] 94 lv st σ c n := (rfl)
set_option maxRecDepth 100000 in
theorem hL_law_95 (cl : List zC) (po : Option Value → bS → Nat → Nat → Prop) (rc rs rk : Nat) (K : zK) (lv : List (Nat × Value)) (st : List Value) (σ : bS) (c n : Nat) : z_hd tL_law cl po rc rs rk K 95 lv st σ c n = z_st cl po rc rs rk K (.invokevirtual 25) [] 95 lv st σ c n := (rfl)
set_option maxRecDepth 100000 in
theorem hL_law_98 (cl : List zC) (po : Option Value → bS → Nat → Nat → Prop) (rc rs rk : Nat) (K : zK) (lv : List (Nat × Value)) (st : List Value) (σ : bS) (c n : Nat) : z_hd tL_law cl po rc rs rk K 98 lv st σ c n = z_st cl po rc rs rk K (.pop) [] 98 lv st σ c n := (rfl)
set_option maxRecDepth 100000 in
theorem hL_law_99 (cl : List zC) (po : Option Value → bS → Nat → Nat → Prop) (rc rs rk : Nat) (K : zK) (lv : List (Nat × Value)) (st : List Value) (σ : bS) (c n : Nat) : z_hd tL_law cl po rc rs rk K 99 lv st σ c n = z_st cl po rc rs rk K (.iinc 2 1) [] 99 lv st σ c n := (rfl)
set_option maxRecDepth 100000 in
theorem hL_law_102 (cl : List zC) (po : Option Value → bS → Nat → Nat → Prop) (rc rs rk : Nat) (K : zK) (lv : List (Nat × Value)) (st : List Value) (σ : bS) (c n : Nat) : z_hd tL_law cl po rc rs rk K 102 lv st σ c n = z_st cl po rc rs rk K (.goto (-43)) [59] 102 lv st σ c n := (rfl)
set_option maxRecDepth 100000 in
theorem hL_law_105 (cl : List zC) (po : Option Value → bS → Nat → Nat → Prop) (rc rs rk : Nat) (K : zK) (lv : List (Nat × Value)) (st : List Value) (σ : bS) (c n : Nat) : z_hd tL_law cl po rc rs rk K 105 lv st σ c n = z_st cl po rc rs rk K (.iconst 0) [] 105 lv st σ c n := (rfl)
set_option maxRecDepth 100000 in
theorem hL_law_106 (cl : List zC) (po : Option Value → bS → Nat → Nat → Prop) (rc rs rk : Nat) (K : zK) (lv : List (Nat × Value)) (st : List Value) (σ : bS) (c n : Nat) : z_hd tL_law cl po rc rs rk K 106 lv st σ c n = z_st cl po rc rs rk K (.istore_n 2) [] 106 lv st σ c n := (rfl)
set_option maxRecDepth 100000 in
theorem hL_law_107 (cl : List zC) (po : Option Value → bS → Nat → Nat → Prop) (rc rs rk : Nat) (K : zK) (lv : List (Nat × Value)) (st : List Value) (σ : bS) (c n : Nat) : z_hd tL_law cl po rc rs rk K 107 lv st σ c n = z_st cl po rc rs rk K (.iconst 0) [] 107 lv st σ c n := (rfl)
set_option maxRecDepth 100000 in
theorem hL_law_108 (cl : List zC) (po : Option Value → bS → Nat → Nat → Prop) (rc rs rk : Nat) (K : zK) (lv : List (Nat × Value)) (st : List Value) (σ : bS) (c n : Nat) : z_hd tL_law cl po rc rs rk K 108 lv st σ c n = z_st cl po rc rs rk K (.istore_n 3) [] 108 lv st σ c n := (rfl)
set_option maxRecDepth 100000 in
theorem hL_law_109 (cl : List zC) (po : Option Value → bS → Nat → Nat → Prop) (rc rs rk : Nat) (K : zK) (lv : List (Nat × Value)) (st : List Value) (σ : bS) (c n : Nat) : z_hd tL_law cl po rc rs rk K 109 lv st σ c n = z_st cl po rc rs rk K (.iconst 0) [] 109 lv st σ c n := (rfl)
set_option maxRecDepth 100000 in
theorem hL_law_110 (cl : List zC) (po : Option Value → bS → Nat → Nat → Prop) (rc rs rk : Nat) (K : zK) (lv : List (Nat × Value)) (st : List Value) (σ : bS) (c n : Nat) : z_hd tL_law cl po rc rs rk K 110 lv st σ c n = z_st cl po rc rs rk K (.istore 4) [] 110 lv st σ c n := (rfl)
set_option maxRecDepth 100000 in
theorem hL_law_112 (cl : List zC) (po : Option Value → bS → Nat → Nat → Prop) (rc rs rk : Nat) (K : zK) (lv : List (Nat × Value)) (st : List Value) (σ : bS) (c n : Nat) : z_hd tL_law cl po rc rs rk K 112 lv st σ c n = z_st cl po rc rs rk K (.iconst 0) [] 112 lv st σ c n := (rfl)
set_option maxRecDepth 100000 in
theorem hL_law_113 (cl : List zC) (po : Option Value → bS → Nat → Nat → Prop) (rc rs rk : Nat) (K : zK) (lv : List (Nat × Value)) (st : List Value) (σ : bS) (c n : Nat) : z_hd tL_law cl po rc rs rk K 113 lv st σ c n = z_st cl po rc rs rk K (.istore 5) [] 113 lv st σ c n := (rfl)
set_option maxRecDepth 100000 in
theorem hL_law_115 (cl : List zC) (po : Option Value → bS → Nat → Nat → Prop) (rc rs rk : Nat) (K : zK) (lv : List (Nat × Value)) (st : List Value) (σ : bS) (c n : Nat) : z_hd tL_law cl po rc rs rk K 115 lv st σ c n = z_st cl po rc rs rk K (.bipush 40) [] 115 lv st σ c n := (rfl)
set_option maxRecDepth 100000 in
theorem hL_law_117 (cl : List zC) (po : Option Value → bS → Nat → Nat → Prop) (rc rs rk : Nat) (K : zK) (lv : List (Nat × Value)) (st : List Value) (σ : bS) (c n : Nat) : z_hd tL_law cl po rc rs rk K 117 lv st σ c n = z_st cl po rc rs rk K (.newarray .int) [] 117 lv st σ c n := (rfl)
set_option maxRecDepth 100000 in
theorem hL_law_119 (cl : List zC) (po : Option Value → bS → Nat → Nat → Prop) (rc rs rk : Nat) (K : zK) (lv : List (Nat × Value)) (st : List Value) (σ : bS) (c n : Nat) : z_hd tL_law cl po rc rs rk K 119 lv st σ c n = z_st cl po rc rs rk K (.astore 6) [] 119 lv st σ c n := (rfl)
set_option maxRecDepth 100000 in
theorem hL_law_121 (cl : List zC) (po : Option Value → bS → Nat → Nat → Prop) (rc rs rk : Nat) (K : zK) (lv : List (Nat × Value)) (st : List Value) (σ : bS) (c n : Nat) : z_hd tL_law cl po rc rs rk K 121 lv st σ c n = z_st cl po rc rs rk K (.bipush 40) [] 121 lv st σ c n := (rfl)
set_option maxRecDepth 100000 in
theorem hL_law_123 (cl : List zC) (po : Option Value → bS → Nat → Nat → Prop) (rc rs rk : Nat) (K : zK) (lv : List (Nat × Value)) (st : List Value) (σ : bS) (c n : Nat) : z_hd tL_law cl po rc rs rk K 123 lv st σ c n = z_st cl po rc rs rk K (.newarray .int) [] 123 lv st σ c n := (rfl)
set_option maxRecDepth 100000 in
theorem hL_law_125 (cl : List zC) (po : Option Value → bS → Nat → Nat → Prop) (rc rs rk : Nat) (K : zK) (lv : List (Nat × Value)) (st : List Value) (σ : bS) (c n : Nat) : z_hd tL_law cl po rc rs rk K 125 lv st σ c n = z_st cl po rc rs rk K (.astore 7) [] 125 lv st σ c n := (rfl)
set_option maxRecDepth 100000 in
theorem hL_law_127 (cl : List zC) (po : Option Value → bS → Nat → Nat → Prop) (rc rs rk : Nat) (K : zK) (lv : List (Nat × Value)) (st : List Value) (σ : bS) (c n : Nat) : z_hd tL_law cl po rc rs rk K 127 lv st σ c n = z_st cl po rc rs rk K (.iconst 0) [] 127 lv st σ c n := (rfl)
set_option maxRecDepth 100000 in
theorem hL_law_128 (cl : List zC) (po : Option Value → bS → Nat → Nat → Prop) (rc rs rk : Nat) (K : zK) (lv : List (Nat × Value)) (st : List Value) (σ : bS) (c n : Nat) : z_hd tL_law cl po rc rs rk K 128 lv st σ c n = z_st cl po rc rs rk K (.istore 8) [] 128 lv st σ c n := (rfl)
set_option maxRecDepth 100000 in
theorem hL_law_130 (cl : List zC) (po : Option Value → bS → Nat → Nat → Prop) (rc rs rk : Nat) (K : zK) (lv : List (Nat × Value)) (st : List Value) (σ : bS) (c n : Nat) : z_hd tL_law cl po rc rs rk K 130 lv st σ c n = z_st cl po rc rs rk K (.iload 8) [] 130 lv st σ c n := (rfl)
set_option maxRecDepth 100000 in
theorem hL_law_132 (cl : List zC) (po : Option Value → bS → Nat → Nat → Prop) (rc rs rk : Nat) (K : zK) (lv : List (Nat × Value)) (st : List Value) (σ : bS) (c n : Nat) : z_hd tL_law cl po rc rs rk K 132 lv st σ c n = z_st cl po rc rs rk K (.bipush 76) [] 132 lv st σ c n := (rfl)
set_option maxRecDepth 100000 in
theorem hL_law_134 (cl : List zC) (po : Option Value → bS → Nat → Nat → Prop) (rc rs rk : Nat) (K : zK) (lv : List (Nat × Value)) (st : List Value) (σ : bS) (c n : Nat) : z_hd tL_law cl po rc rs rk K 134 lv st σ c n = z_st cl po rc rs rk K (.if_icmp .ge 1119) [1253] 134 lv st σ c n := (rfl)
set_option maxRecDepth 100000 in
theorem hL_law_137 (cl : List zC) (po : Option Value → bS → Nat → Nat → Prop) (rc rs rk : Nat) (K : zK) (lv : List (Nat × Value)) (st : List Value) (σ : bS) (c n : Nat) : z_hd tL_law cl po rc rs rk K 137 lv st σ c n = z_st cl po rc rs rk K (.aload_n 0) [] 137 lv st σ c n := (rfl)
set_option maxRecDepth 100000 in
theorem hL_law_138 (cl : List zC) (po : Option Value → bS → Nat → Nat → Prop) (rc rs rk : Nat) (K : zK) (lv : List (Nat × Value)) (st : List Value) (σ : bS) (c n : Nat) : z_hd tL_law cl po rc rs rk K 138 lv st σ c n = z_st cl po rc rs rk K (.iconst 5) [] 138 lv st σ c n := (rfl)
set_option maxRecDepth 100000 in
theorem hL_law_139 (cl : List zC) (po : Option Value → bS → Nat → Nat → Prop) (rc rs rk : Nat) (K : zK) (lv : List (Nat × Value)) (st : List Value) (σ : bS) (c n : Nat) : z_hd tL_law cl po rc rs rk K 139 lv st σ c n = z_st cl po rc rs rk K (.iload 8) [] 139 lv st σ c n := (rfl)
set_option maxRecDepth 100000 in
theorem hL_law_141 (cl : List zC) (po : Option Value → bS → Nat → Nat → Prop) (rc rs rk : Nat) (K : zK) (lv : List (Nat × Value)) (st : List Value) (σ : bS) (c n : Nat) : z_hd tL_law cl po rc rs rk K 141 lv st σ c n = z_st cl po rc rs rk K (.bipush 22) [] 141 lv st σ c n := (rfl)
set_option maxRecDepth 100000 in
theorem hL_law_143 (cl : List zC) (po : Option Value → bS → Nat → Nat → Prop) (rc rs rk : Nat) (K : zK) (lv : List (Nat × Value)) (st : List Value) (σ : bS) (c n : Nat) : z_hd tL_law cl po rc rs rk K 143 lv st σ c n = z_st cl po rc rs rk K (.irem) [] 143 lv st σ c n := (rfl)
set_option maxRecDepth 100000 in
theorem hL_law_144 (cl : List zC) (po : Option Value → bS → Nat → Nat → Prop) (rc rs rk : Nat) (K : zK) (lv : List (Nat × Value)) (st : List Value) (σ : bS) (c n : Nat) : z_hd tL_law cl po rc rs rk K 144 lv st σ c n = z_st cl po rc rs rk K (.iadd) [] 144 lv st σ c n := (rfl)
set_option maxRecDepth 100000 in
theorem hL_law_145 (cl : List zC) (po : Option Value → bS → Nat → Nat → Prop) (rc rs rk : Nat) (K : zK) (lv : List (Nat × Value)) (st : List Value) (σ : bS) (c n : Nat) : z_hd tL_law cl po rc rs rk K 145 lv st σ c n = z_st cl po rc rs rk K (.invokestatic 12) [] 145 lv st σ c n := (rfl)
set_option maxRecDepth 100000 in
theorem hL_law_148 (cl : List zC) (po : Option Value → bS → Nat → Nat → Prop) (rc rs rk : Nat) (K : zK) (lv : List (Nat × Value)) (st : List Value) (σ : bS) (c n : Nat) : z_hd tL_law cl po rc rs rk K 148 lv st σ c n = z_st cl po rc rs rk K (.iload 8) [] 148 lv st σ c n := (rfl)
set_option maxRecDepth 100000 in
theorem hL_law_150 (cl : List zC) (po : Option Value → bS → Nat → Nat → Prop) (rc rs rk : Nat) (K : zK) (lv : List (Nat × Value)) (st : List Value) (σ : bS) (c n : Nat) : z_hd tL_law cl po rc rs rk K 150 lv st σ c n = z_st cl po rc rs rk K (.bipush 22) [] 150 lv st σ c n := (rfl)
set_option maxRecDepth 100000 in
theorem hL_law_152 (cl : List zC) (po : Option Value → bS → Nat → Nat → Prop) (rc rs rk : Nat) (K : zK) (lv : List (Nat × Value)) (st : List Value) (σ : bS) (c n : Nat) : z_hd tL_law cl po rc rs rk K 152 lv st σ c n = z_st cl po rc rs rk K (.idiv) [] 152 lv st σ c n := (rfl)
set_option maxRecDepth 100000 in
theorem hL_law_153 (cl : List zC) (po : Option Value → bS → Nat → Nat → Prop) (rc rs rk : Nat) (K : zK) (lv : List (Nat × Value)) (st : List Value) (σ : bS) (c n : Nat) : z_hd tL_law cl po rc rs rk K 153 lv st σ c n = z_st cl po rc rs rk K (.iconst 3) [] 153 lv st σ c n := (rfl)
set_option maxRecDepth 100000 in
theorem hL_law_154 (cl : List zC) (po : Option Value → bS → Nat → Nat → Prop) (rc rs rk : Nat) (K : zK) (lv : List (Nat × Value)) (st : List Value) (σ : bS) (c n : Nat) : z_hd tL_law cl po rc rs rk K 154 lv st σ c n = z_st cl po rc rs rk K (.imul) [] 154 lv st σ c n := (rfl)
set_option maxRecDepth 100000 in
theorem hL_law_155 (cl : List zC) (po : Option Value → bS → Nat → Nat → Prop) (rc rs rk : Nat) (K : zK) (lv : List (Nat × Value)) (st : List Value) (σ : bS) (c n : Nat) : z_hd tL_law cl po rc rs rk K 155 lv st σ c n = z_st cl po rc rs rk K (.ishr) [] 155 lv st σ c n := (rfl)
set_option maxRecDepth 100000 in
theorem hL_law_156 (cl : List zC) (po : Option Value → bS → Nat → Nat → Prop) (rc rs rk : Nat) (K : zK) (lv : List (Nat × Value)) (st : List Value) (σ : bS) (c n : Nat) : z_hd tL_law cl po rc rs rk K 156 lv st σ c n = z_st cl po rc rs rk K (.istore 9) [] 156 lv st σ c n := (rfl)
set_option maxRecDepth 100000 in
theorem hL_law_158 (cl : List zC) (po : Option Value → bS → Nat → Nat → Prop) (rc rs rk : Nat) (K : zK) (lv : List (Nat × Value)) (st : List Value) (σ : bS) (c n : Nat) : z_hd tL_law cl po rc rs rk K 158 lv st σ c n = z_st cl po rc rs rk K (.iload 9) [] 158 lv st σ c n := (rfl)
set_option maxRecDepth 100000 in
theorem hL_law_160 (cl : List zC) (po : Option Value → bS → Nat → Nat → Prop) (rc rs rk : Nat) (K : zK) (lv : List (Nat × Value)) (st : List Value) (σ : bS) (c n : Nat) : z_hd tL_law cl po rc rs rk K 160 lv st σ c n = z_st cl po rc rs rk K (.iconst 4) [] 160 lv st σ c n := (rfl)
set_option maxRecDepth 100000 in
theorem hL_law_161 (cl : List zC) (po : Option Value → bS → Nat → Nat → Prop) (rc rs rk : Nat) (K : zK) (lv : List (Nat × Value)) (st : List Value) (σ : bS) (c n : Nat) : z_hd tL_law cl po rc rs rk K 161 lv st σ c n = z_st cl po rc rs rk K (.ishr) [] 161 lv st σ c n := (rfl)
set_option maxRecDepth 100000 in
theorem hL_law_162 (cl : List zC) (po : Option Value → bS → Nat → Nat → Prop) (rc rs rk : Nat) (K : zK) (lv : List (Nat × Value)) (st : List Value) (σ : bS) (c n : Nat) : z_hd tL_law cl po rc rs rk K 162 lv st σ c n = z_st cl po rc rs rk K (.bipush 6) [] 162 lv st σ c n := (rfl)
set_option maxRecDepth 100000 in
theorem hL_law_164 (cl : List zC) (po : Option Value → bS → Nat → Nat → Prop) (rc rs rk : Nat) (K : zK) (lv : List (Nat × Value)) (st : List Value) (σ : bS) (c n : Nat) : z_hd tL_law cl po rc rs rk K 164 lv st σ c n = z_st cl po rc rs rk K (.invokestatic 18) [] 164 lv st σ c n := (rfl)
set_option maxRecDepth 100000 in
theorem hL_law_167 (cl : List zC) (po : Option Value → bS → Nat → Nat → Prop) (rc rs rk : Nat) (K : zK) (lv : List (Nat × Value)) (st : List Value) (σ : bS) (c n : Nat) : z_hd tL_law cl po rc rs rk K 167 lv st σ c n = z_st cl po rc rs rk K (.istore 10) [] 167 lv st σ c n := (rfl)
set_option maxRecDepth 100000 in
theorem hL_law_169 (cl : List zC) (po : Option Value → bS → Nat → Nat → Prop) (rc rs rk : Nat) (K : zK) (lv : List (Nat × Value)) (st : List Value) (σ : bS) (c n : Nat) : z_hd tL_law cl po rc rs rk K 169 lv st σ c n = z_st cl po rc rs rk K (.iload 9) [] 169 lv st σ c n := (rfl)
set_option maxRecDepth 100000 in
theorem hL_law_171 (cl : List zC) (po : Option Value → bS → Nat → Nat → Prop) (rc rs rk : Nat) (K : zK) (lv : List (Nat × Value)) (st : List Value) (σ : bS) (c n : Nat) : z_hd tL_law cl po rc rs rk K 171 lv st σ c n = z_st cl po rc rs rk K (.iconst 5) [] 171 lv st σ c n := (rfl)
set_option maxRecDepth 100000 in
theorem hL_law_172 (cl : List zC) (po : Option Value → bS → Nat → Nat → Prop) (rc rs rk : Nat) (K : zK) (lv : List (Nat × Value)) (st : List Value) (σ : bS) (c n : Nat) : z_hd tL_law cl po rc rs rk K 172 lv st σ c n = z_st cl po rc rs rk K (.ishr) [] 172 lv st σ c n := (rfl)
set_option maxRecDepth 100000 in
theorem hL_law_173 (cl : List zC) (po : Option Value → bS → Nat → Nat → Prop) (rc rs rk : Nat) (K : zK) (lv : List (Nat × Value)) (st : List Value) (σ : bS) (c n : Nat) : z_hd tL_law cl po rc rs rk K 173 lv st σ c n = z_st cl po rc rs rk K (.iconst 4) [] 173 lv st σ c n := (rfl)
set_option maxRecDepth 100000 in
theorem hL_law_174 (cl : List zC) (po : Option Value → bS → Nat → Nat → Prop) (rc rs rk : Nat) (K : zK) (lv : List (Nat × Value)) (st : List Value) (σ : bS) (c n : Nat) : z_hd tL_law cl po rc rs rk K 174 lv st σ c n = z_st cl po rc rs rk K (.invokestatic 18) [] 174 lv st σ c n := (rfl)
set_option maxRecDepth 100000 in
theorem hL_law_177 (cl : List zC) (po : Option Value → bS → Nat → Nat → Prop) (rc rs rk : Nat) (K : zK) (lv : List (Nat × Value)) (st : List Value) (σ : bS) (c n : Nat) : z_hd tL_law cl po rc rs rk K 177 lv st σ c n = z_st cl po rc rs rk K (.istore 11) [] 177 lv st σ c n := (rfl)
set_option maxRecDepth 100000 in
theorem hL_law_179 (cl : List zC) (po : Option Value → bS → Nat → Nat → Prop) (rc rs rk : Nat) (K : zK) (lv : List (Nat × Value)) (st : List Value) (σ : bS) (c n : Nat) : z_hd tL_law cl po rc rs rk K 179 lv st σ c n = z_st cl po rc rs rk K (.iload_n 2) [] 179 lv st σ c n := (rfl)
set_option maxRecDepth 100000 in
theorem hL_law_180 (cl : List zC) (po : Option Value → bS → Nat → Nat → Prop) (rc rs rk : Nat) (K : zK) (lv : List (Nat × Value)) (st : List Value) (σ : bS) (c n : Nat) : z_hd tL_law cl po rc rs rk K 180 lv st σ c n = z_st cl po rc rs rk K (.ifCond .ne 7) [187] 180 lv st σ c n := (rfl)
set_option maxRecDepth 100000 in
theorem hL_law_183 (cl : List zC) (po : Option Value → bS → Nat → Nat → Prop) (rc rs rk : Nat) (K : zK) (lv : List (Nat × Value)) (st : List Value) (σ : bS) (c n : Nat) : z_hd tL_law cl po rc rs rk K 183 lv st σ c n = z_st cl po rc rs rk K (.iconst (-1)) [] 183 lv st σ c n := (rfl)
set_option maxRecDepth 100000 in
theorem hL_law_184 (cl : List zC) (po : Option Value → bS → Nat → Nat → Prop) (rc rs rk : Nat) (K : zK) (lv : List (Nat × Value)) (st : List Value) (σ : bS) (c n : Nat) : z_hd tL_law cl po rc rs rk K 184 lv st σ c n = z_st cl po rc rs rk K (.goto 12) [196] 184 lv st σ c n := (rfl)
set_option maxRecDepth 100000 in
theorem hL_law_187 (cl : List zC) (po : Option Value → bS → Nat → Nat → Prop) (rc rs rk : Nat) (K : zK) (lv : List (Nat × Value)) (st : List Value) (σ : bS) (c n : Nat) : z_hd tL_law cl po rc rs rk K 187 lv st σ c n = z_st cl po rc rs rk K (.iload 9) [] 187 lv st σ c n := (rfl)
set_option maxRecDepth 100000 in
theorem hL_law_189 (cl : List zC) (po : Option Value → bS → Nat → Nat → Prop) (rc rs rk : Nat) (K : zK) (lv : List (Nat × Value)) (st : List Value) (σ : bS) (c n : Nat) : z_hd tL_law cl po rc rs rk K 189 lv st σ c n = z_st cl po rc rs rk K (.bipush 6) [] 189 lv st σ c n := (rfl)
set_option maxRecDepth 100000 in
theorem hL_law_191 (cl : List zC) (po : Option Value → bS → Nat → Nat → Prop) (rc rs rk : Nat) (K : zK) (lv : List (Nat × Value)) (st : List Value) (σ : bS) (c n : Nat) : z_hd tL_law cl po rc rs rk K 191 lv st σ c n = z_st cl po rc rs rk K (.ishr) [] 191 lv st σ c n := (rfl)
set_option maxRecDepth 100000 in
theorem hL_law_192 (cl : List zC) (po : Option Value → bS → Nat → Nat → Prop) (rc rs rk : Nat) (K : zK) (lv : List (Nat × Value)) (st : List Value) (σ : bS) (c n : Nat) : z_hd tL_law cl po rc rs rk K 192 lv st σ c n = z_st cl po rc rs rk K (.iload_n 2) [] 192 lv st σ c n := (rfl)
set_option maxRecDepth 100000 in
theorem hL_law_193 (cl : List zC) (po : Option Value → bS → Nat → Nat → Prop) (rc rs rk : Nat) (K : zK) (lv : List (Nat × Value)) (st : List Value) (σ : bS) (c n : Nat) : z_hd tL_law cl po rc rs rk K 193 lv st σ c n = z_st cl po rc rs rk K (.invokestatic 18) [] 193 lv st σ c n := (rfl)
set_option maxRecDepth 100000 in
theorem hL_law_196 (cl : List zC) (po : Option Value → bS → Nat → Nat → Prop) (rc rs rk : Nat) (K : zK) (lv : List (Nat × Value)) (st : List Value) (σ : bS) (c n : Nat) : z_hd tL_law cl po rc rs rk K 196 lv st σ c n = z_st cl po rc rs rk K (.istore 12) [] 196 lv st σ c n := (rfl)
set_option maxRecDepth 100000 in
theorem hL_law_198 (cl : List zC) (po : Option Value → bS → Nat → Nat → Prop) (rc rs rk : Nat) (K : zK) (lv : List (Nat × Value)) (st : List Value) (σ : bS) (c n : Nat) : z_hd tL_law cl po rc rs rk K 198 lv st σ c n = z_st cl po rc rs rk K (.aload_n 1) [] 198 lv st σ c n := (rfl)
set_option maxRecDepth 100000 in
theorem hL_law_199 (cl : List zC) (po : Option Value → bS → Nat → Nat → Prop) (rc rs rk : Nat) (K : zK) (lv : List (Nat × Value)) (st : List Value) (σ : bS) (c n : Nat) : z_hd tL_law cl po rc rs rk K 199 lv st σ c n = z_st cl po rc rs rk K (.bipush 14) [] 199 lv st σ c n := (rfl)
set_option maxRecDepth 100000 in
theorem hL_law_201 (cl : List zC) (po : Option Value → bS → Nat → Nat → Prop) (rc rs rk : Nat) (K : zK) (lv : List (Nat × Value)) (st : List Value) (σ : bS) (c n : Nat) : z_hd tL_law cl po rc rs rk K 201 lv st σ c n = z_st cl po rc rs rk K (.invokevirtual 28) [] 201 lv st σ c n := (rfl)
set_option maxRecDepth 100000 in
theorem hL_law_204 (cl : List zC) (po : Option Value → bS → Nat → Nat → Prop) (rc rs rk : Nat) (K : zK) (lv : List (Nat × Value)) (st : List Value) (σ : bS) (c n : Nat) : z_hd tL_law cl po rc rs rk K 204 lv st σ c n = z_st cl po rc rs rk K (.istore 13) [] 204 lv st σ c n := (rfl)
set_option maxRecDepth 100000 in
theorem hL_law_206 (cl : List zC) (po : Option Value → bS → Nat → Nat → Prop) (rc rs rk : Nat) (K : zK) (lv : List (Nat × Value)) (st : List Value) (σ : bS) (c n : Nat) : z_hd tL_law cl po rc rs rk K 206 lv st σ c n = z_st cl po rc rs rk K (.aload_n 1) [] 206 lv st σ c n := (rfl)
set_option maxRecDepth 100000 in
theorem hL_law_207 (cl : List zC) (po : Option Value → bS → Nat → Nat → Prop) (rc rs rk : Nat) (K : zK) (lv : List (Nat × Value)) (st : List Value) (σ : bS) (c n : Nat) : z_hd tL_law cl po rc rs rk K 207 lv st σ c n = z_st cl po rc rs rk K (.invokestatic 32) [] 207 lv st σ c n := (rfl)
set_option maxRecDepth 100000 in
theorem hL_law_210 (cl : List zC) (po : Option Value → bS → Nat → Nat → Prop) (rc rs rk : Nat) (K : zK) (lv : List (Nat × Value)) (st : List Value) (σ : bS) (c n : Nat) : z_hd tL_law cl po rc rs rk K 210 lv st σ c n = z_st cl po rc rs rk K (.istore 14) [] 210 lv st σ c n := (rfl)
set_option maxRecDepth 100000 in
theorem hL_law_212 (cl : List zC) (po : Option Value → bS → Nat → Nat → Prop) (rc rs rk : Nat) (K : zK) (lv : List (Nat × Value)) (st : List Value) (σ : bS) (c n : Nat) : z_hd tL_law cl po rc rs rk K 212 lv st σ c n = z_st cl po rc rs rk K (.iconst (-1)) [] 212 lv st σ c n := (rfl)
set_option maxRecDepth 100000 in
theorem hL_law_213 (cl : List zC) (po : Option Value → bS → Nat → Nat → Prop) (rc rs rk : Nat) (K : zK) (lv : List (Nat × Value)) (st : List Value) (σ : bS) (c n : Nat) : z_hd tL_law cl po rc rs rk K 213 lv st σ c n = z_st cl po rc rs rk K (.istore 15) [] 213 lv st σ c n := (rfl)
set_option maxRecDepth 100000 in
theorem hL_law_215 (cl : List zC) (po : Option Value → bS → Nat → Nat → Prop) (rc rs rk : Nat) (K : zK) (lv : List (Nat × Value)) (st : List Value) (σ : bS) (c n : Nat) : z_hd tL_law cl po rc rs rk K 215 lv st σ c n = z_st cl po rc rs rk K (.iload 13) [] 215 lv st σ c n := (rfl)
set_option maxRecDepth 100000 in
theorem hL_law_217 (cl : List zC) (po : Option Value → bS → Nat → Nat → Prop) (rc rs rk : Nat) (K : zK) (lv : List (Nat × Value)) (st : List Value) (σ : bS) (c n : Nat) : z_hd tL_law cl po rc rs rk K 217 lv st σ c n = z_st cl po rc rs rk K (.istore 16) [] 217 lv st σ c n := (rfl)
set_option maxRecDepth 100000 in
theorem hL_law_219 (cl : List zC) (po : Option Value → bS → Nat → Nat → Prop) (rc rs rk : Nat) (K : zK) (lv : List (Nat × Value)) (st : List Value) (σ : bS) (c n : Nat) : z_hd tL_law cl po rc rs rk K 219 lv st σ c n = z_st cl po rc rs rk K (.iload 14) [] 219 lv st σ c n := (rfl)
set_option maxRecDepth 100000 in
theorem hL_law_221 (cl : List zC) (po : Option Value → bS → Nat → Nat → Prop) (rc rs rk : Nat) (K : zK) (lv : List (Nat × Value)) (st : List Value) (σ : bS) (c n : Nat) : z_hd tL_law cl po rc rs rk K 221 lv st σ c n = z_st cl po rc rs rk K (.istore 17) [] 221 lv st σ c n := (rfl)
set_option maxRecDepth 100000 in
theorem hL_law_223 (cl : List zC) (po : Option Value → bS → Nat → Nat → Prop) (rc rs rk : Nat) (K : zK) (lv : List (Nat × Value)) (st : List Value) (σ : bS) (c n : Nat) : z_hd tL_law cl po rc rs rk K 223 lv st σ c n = z_st cl po rc rs rk K (.iload 9) [] 223 lv st σ c n := (rfl)
set_option maxRecDepth 100000 in
theorem hL_law_225 (cl : List zC) (po : Option Value → bS → Nat → Nat → Prop) (rc rs rk : Nat) (K : zK) (lv : List (Nat × Value)) (st : List Value) (σ : bS) (c n : Nat) : z_hd tL_law cl po rc rs rk K 225 lv st σ c n = z_st cl po rc rs rk K (.bipush 20) [] 225 lv st σ c n := (rfl)
set_option maxRecDepth 100000 in
theorem hL_law_227 (cl : List zC) (po : Option Value → bS → Nat → Nat → Prop) (rc rs rk : Nat) (K : zK) (lv : List (Nat × Value)) (st : List Value) (σ : bS) (c n : Nat) : z_hd tL_law cl po rc rs rk K 227 lv st σ c n = z_st cl po rc rs rk K (.invokestatic 18) [] 227 lv st σ c n := (rfl)
set_option maxRecDepth 100000 in
theorem hL_law_230 (cl : List zC) (po : Option Value → bS → Nat → Nat → Prop) (rc rs rk : Nat) (K : zK) (lv : List (Nat × Value)) (st : List Value) (σ : bS) (c n : Nat) : z_hd tL_law cl po rc rs rk K 230 lv st σ c n = z_st cl po rc rs rk K (.tableswitch 770 0 17 #[86, 86, 86, 181, 181, 215, 236, 286, 332, 366, 408, 408, 471, 499, 542, 608, 686, 748]) [1000, 316, 316, 316, 411, 411, 445, 466, 516, 562, 596, 638, 638, 701, 729, 772, 838, 916, 978] 230 lv st σ c n := (rfl)
set_option maxRecDepth 100000 in
theorem hL_law_316 (cl : List zC) (po : Option Value → bS → Nat → Nat → Prop) (rc rs rk : Nat) (K : zK) (lv : List (Nat × Value)) (st : List Value) (σ : bS) (c n : Nat) : z_hd tL_law cl po rc rs rk K 316 lv st σ c n = z_st cl po rc rs rk K (.iload_n 2) [] 316 lv st σ c n := (rfl)
set_option maxRecDepth 100000 in
theorem hL_law_317 (cl : List zC) (po : Option Value → bS → Nat → Nat → Prop) (rc rs rk : Nat) (K : zK) (lv : List (Nat × Value)) (st : List Value) (σ : bS) (c n : Nat) : z_hd tL_law cl po rc rs rk K 317 lv st σ c n = z_st cl po rc rs rk K (.bipush 40) [] 317 lv st σ c n := (rfl)
set_option maxRecDepth 100000 in
theorem hL_law_319 (cl : List zC) (po : Option Value → bS → Nat → Nat → Prop) (rc rs rk : Nat) (K : zK) (lv : List (Nat × Value)) (st : List Value) (σ : bS) (c n : Nat) : z_hd tL_law cl po rc rs rk K 319 lv st σ c n = z_st cl po rc rs rk K (.if_icmp .ne 6) [325] 319 lv st σ c n := (rfl)
set_option maxRecDepth 100000 in
theorem hL_law_322 (cl : List zC) (po : Option Value → bS → Nat → Nat → Prop) (rc rs rk : Nat) (K : zK) (lv : List (Nat × Value)) (st : List Value) (σ : bS) (c n : Nat) : z_hd tL_law cl po rc rs rk K 322 lv st σ c n = z_st cl po rc rs rk K (.goto 770) [1092] 322 lv st σ c n := (rfl)
set_option maxRecDepth 100000 in
theorem hL_law_325 (cl : List zC) (po : Option Value → bS → Nat → Nat → Prop) (rc rs rk : Nat) (K : zK) (lv : List (Nat × Value)) (st : List Value) (σ : bS) (c n : Nat) : z_hd tL_law cl po rc rs rk K 325 lv st σ c n = z_st cl po rc rs rk K (.aload_n 1) [] 325 lv st σ c n := (rfl)
set_option maxRecDepth 100000 in
theorem hL_law_326 (cl : List zC) (po : Option Value → bS → Nat → Nat → Prop) (rc rs rk : Nat) (K : zK) (lv : List (Nat × Value)) (st : List Value) (σ : bS) (c n : Nat) : z_hd tL_law cl po rc rs rk K 326 lv st σ c n = z_st cl po rc rs rk K (.iload 11) [] 326 lv st σ c n := (rfl)
set_option maxRecDepth 100000 in
theorem hL_law_328 (cl : List zC) (po : Option Value → bS → Nat → Nat → Prop) (rc rs rk : Nat) (K : zK) (lv : List (Nat × Value)) (st : List Value) (σ : bS) (c n : Nat) : z_hd tL_law cl po rc rs rk K 328 lv st σ c n = z_st cl po rc rs rk K (.iload 10) [] 328 lv st σ c n := (rfl)
set_option maxRecDepth 100000 in
theorem hL_law_330 (cl : List zC) (po : Option Value → bS → Nat → Nat → Prop) (rc rs rk : Nat) (K : zK) (lv : List (Nat × Value)) (st : List Value) (σ : bS) (c n : Nat) : z_hd tL_law cl po rc rs rk K 330 lv st σ c n = z_st cl po rc rs rk K (.iload 9) [] 330 lv st σ c n := (rfl)
set_option maxRecDepth 100000 in
theorem hL_law_332 (cl : List zC) (po : Option Value → bS → Nat → Nat → Prop) (rc rs rk : Nat) (K : zK) (lv : List (Nat × Value)) (st : List Value) (σ : bS) (c n : Nat) : z_hd tL_law cl po rc rs rk K 332 lv st σ c n = z_st cl po rc rs rk K (.iconst 3) [] 332 lv st σ c n := (rfl)
set_option maxRecDepth 100000 in
theorem hL_law_333 (cl : List zC) (po : Option Value → bS → Nat → Nat → Prop) (rc rs rk : Nat) (K : zK) (lv : List (Nat × Value)) (st : List Value) (σ : bS) (c n : Nat) : z_hd tL_law cl po rc rs rk K 333 lv st σ c n = z_st cl po rc rs rk K (.ishr) [] 333 lv st σ c n := (rfl)
set_option maxRecDepth 100000 in
theorem hL_law_334 (cl : List zC) (po : Option Value → bS → Nat → Nat → Prop) (rc rs rk : Nat) (K : zK) (lv : List (Nat × Value)) (st : List Value) (σ : bS) (c n : Nat) : z_hd tL_law cl po rc rs rk K 334 lv st σ c n = z_st cl po rc rs rk K (.iconst 3) [] 334 lv st σ c n := (rfl)
set_option maxRecDepth 100000 in
theorem hL_law_335 (cl : List zC) (po : Option Value → bS → Nat → Nat → Prop) (rc rs rk : Nat) (K : zK) (lv : List (Nat × Value)) (st : List Value) (σ : bS) (c n : Nat) : z_hd tL_law cl po rc rs rk K 335 lv st σ c n = z_st cl po rc rs rk K (.invokestatic 18) [] 335 lv st σ c n := (rfl)
set_option maxRecDepth 100000 in
theorem hL_law_338 (cl : List zC) (po : Option Value → bS → Nat → Nat → Prop) (rc rs rk : Nat) (K : zK) (lv : List (Nat × Value)) (st : List Value) (σ : bS) (c n : Nat) : z_hd tL_law cl po rc rs rk K 338 lv st σ c n = z_st cl po rc rs rk K (.iconst 3) [] 338 lv st σ c n := (rfl)
set_option maxRecDepth 100000 in
theorem hL_law_339 (cl : List zC) (po : Option Value → bS → Nat → Nat → Prop) (rc rs rk : Nat) (K : zK) (lv : List (Nat × Value)) (st : List Value) (σ : bS) (c n : Nat) : z_hd tL_law cl po rc rs rk K 339 lv st σ c n = z_st cl po rc rs rk K (.iload 9) [] 339 lv st σ c n := (rfl)
set_option maxRecDepth 100000 in
theorem hL_law_341 (cl : List zC) (po : Option Value → bS → Nat → Nat → Prop) (rc rs rk : Nat) (K : zK) (lv : List (Nat × Value)) (st : List Value) (σ : bS) (c n : Nat) : z_hd tL_law cl po rc rs rk K 341 lv st σ c n = z_st cl po rc rs rk K (.iconst 2) [] 341 lv st σ c n := (rfl)
set_option maxRecDepth 100000 in
theorem hL_law_342 (cl : List zC) (po : Option Value → bS → Nat → Nat → Prop) (rc rs rk : Nat) (K : zK) (lv : List (Nat × Value)) (st : List Value) (σ : bS) (c n : Nat) : z_hd tL_law cl po rc rs rk K 342 lv st σ c n = z_st cl po rc rs rk K (.ishr) [] 342 lv st σ c n := (rfl)
set_option maxRecDepth 100000 in
theorem hL_law_343 (cl : List zC) (po : Option Value → bS → Nat → Nat → Prop) (rc rs rk : Nat) (K : zK) (lv : List (Nat × Value)) (st : List Value) (σ : bS) (c n : Nat) : z_hd tL_law cl po rc rs rk K 343 lv st σ c n = z_st cl po rc rs rk K (.bipush 7) [] 343 lv st σ c n := (rfl)
set_option maxRecDepth 100000 in
theorem hL_law_345 (cl : List zC) (po : Option Value → bS → Nat → Nat → Prop) (rc rs rk : Nat) (K : zK) (lv : List (Nat × Value)) (st : List Value) (σ : bS) (c n : Nat) : z_hd tL_law cl po rc rs rk K 345 lv st σ c n = z_st cl po rc rs rk K (.invokestatic 18) [] 345 lv st σ c n := (rfl)
set_option maxRecDepth 100000 in
theorem hL_law_348 (cl : List zC) (po : Option Value → bS → Nat → Nat → Prop) (rc rs rk : Nat) (K : zK) (lv : List (Nat × Value)) (st : List Value) (σ : bS) (c n : Nat) : z_hd tL_law cl po rc rs rk K 348 lv st σ c n = z_st cl po rc rs rk K (.iadd) [] 348 lv st σ c n := (rfl)
set_option maxRecDepth 100000 in
theorem hL_law_349 (cl : List zC) (po : Option Value → bS → Nat → Nat → Prop) (rc rs rk : Nat) (K : zK) (lv : List (Nat × Value)) (st : List Value) (σ : bS) (c n : Nat) : z_hd tL_law cl po rc rs rk K 349 lv st σ c n = z_st cl po rc rs rk K (.iconst 1) [] 349 lv st σ c n := (rfl)
set_option maxRecDepth 100000 in
theorem hL_law_350 (cl : List zC) (po : Option Value → bS → Nat → Nat → Prop) (rc rs rk : Nat) (K : zK) (lv : List (Nat × Value)) (st : List Value) (σ : bS) (c n : Nat) : z_hd tL_law cl po rc rs rk K 350 lv st σ c n = z_st cl po rc rs rk K (.iload 9) [] 350 lv st σ c n := (rfl)
set_option maxRecDepth 100000 in
theorem hL_law_352 (cl : List zC) (po : Option Value → bS → Nat → Nat → Prop) (rc rs rk : Nat) (K : zK) (lv : List (Nat × Value)) (st : List Value) (σ : bS) (c n : Nat) : z_hd tL_law cl po rc rs rk K 352 lv st σ c n = z_st cl po rc rs rk K (.bipush 6) [] 352 lv st σ c n := (rfl)
set_option maxRecDepth 100000 in
theorem hL_law_354 (cl : List zC) (po : Option Value → bS → Nat → Nat → Prop) (rc rs rk : Nat) (K : zK) (lv : List (Nat × Value)) (st : List Value) (σ : bS) (c n : Nat) : z_hd tL_law cl po rc rs rk K 354 lv st σ c n = z_st cl po rc rs rk K (.ishr) [] 354 lv st σ c n := (rfl)
set_option maxRecDepth 100000 in
theorem hL_law_355 (cl : List zC) (po : Option Value → bS → Nat → Nat → Prop) (rc rs rk : Nat) (K : zK) (lv : List (Nat × Value)) (st : List Value) (σ : bS) (c n : Nat) : z_hd tL_law cl po rc rs rk K 355 lv st σ c n = z_st cl po rc rs rk K (.bipush 7) [] 355 lv st σ c n := (rfl)
set_option maxRecDepth 100000 in
theorem hL_law_357 (cl : List zC) (po : Option Value → bS → Nat → Nat → Prop) (rc rs rk : Nat) (K : zK) (lv : List (Nat × Value)) (st : List Value) (σ : bS) (c n : Nat) : z_hd tL_law cl po rc rs rk K 357 lv st σ c n = z_st cl po rc rs rk K (.invokestatic 18) [] 357 lv st σ c n := (rfl)
set_option maxRecDepth 100000 in
theorem hL_law_360 (cl : List zC) (po : Option Value → bS → Nat → Nat → Prop) (rc rs rk : Nat) (K : zK) (lv : List (Nat × Value)) (st : List Value) (σ : bS) (c n : Nat) : z_hd tL_law cl po rc rs rk K 360 lv st σ c n = z_st cl po rc rs rk K (.iadd) [] 360 lv st σ c n := (rfl)
set_option maxRecDepth 100000 in
theorem hL_law_361 (cl : List zC) (po : Option Value → bS → Nat → Nat → Prop) (rc rs rk : Nat) (K : zK) (lv : List (Nat × Value)) (st : List Value) (σ : bS) (c n : Nat) : z_hd tL_law cl po rc rs rk K 361 lv st σ c n = z_st cl po rc rs rk K (.invokevirtual 36) [] 361 lv st σ c n := (rfl)
set_option maxRecDepth 100000 in
theorem hL_law_364 (cl : List zC) (po : Option Value → bS → Nat → Nat → Prop) (rc rs rk : Nat) (K : zK) (lv : List (Nat × Value)) (st : List Value) (σ : bS) (c n : Nat) : z_hd tL_law cl po rc rs rk K 364 lv st σ c n = z_st cl po rc rs rk K (.iload_n 2) [] 364 lv st σ c n := (rfl)
set_option maxRecDepth 100000 in
theorem hL_law_365 (cl : List zC) (po : Option Value → bS → Nat → Nat → Prop) (rc rs rk : Nat) (K : zK) (lv : List (Nat × Value)) (st : List Value) (σ : bS) (c n : Nat) : z_hd tL_law cl po rc rs rk K 365 lv st σ c n = z_st cl po rc rs rk K (.if_icmp .ne 28) [393] 365 lv st σ c n := (rfl)
set_option maxRecDepth 100000 in
theorem hL_law_368 (cl : List zC) (po : Option Value → bS → Nat → Nat → Prop) (rc rs rk : Nat) (K : zK) (lv : List (Nat × Value)) (st : List Value) (σ : bS) (c n : Nat) : z_hd tL_law cl po rc rs rk K 368 lv st σ c n = z_st cl po rc rs rk K (.aload_n 1) [] 368 lv st σ c n := (rfl)
set_option maxRecDepth 100000 in
theorem hL_law_369 (cl : List zC) (po : Option Value → bS → Nat → Nat → Prop) (rc rs rk : Nat) (K : zK) (lv : List (Nat × Value)) (st : List Value) (σ : bS) (c n : Nat) : z_hd tL_law cl po rc rs rk K 369 lv st σ c n = z_st cl po rc rs rk K (.iload_n 2) [] 369 lv st σ c n := (rfl)
set_option maxRecDepth 100000 in
theorem hL_law_370 (cl : List zC) (po : Option Value → bS → Nat → Nat → Prop) (rc rs rk : Nat) (K : zK) (lv : List (Nat × Value)) (st : List Value) (σ : bS) (c n : Nat) : z_hd tL_law cl po rc rs rk K 370 lv st σ c n = z_st cl po rc rs rk K (.iconst 5) [] 370 lv st σ c n := (rfl)
set_option maxRecDepth 100000 in
theorem hL_law_371 (cl : List zC) (po : Option Value → bS → Nat → Nat → Prop) (rc rs rk : Nat) (K : zK) (lv : List (Nat × Value)) (st : List Value) (σ : bS) (c n : Nat) : z_hd tL_law cl po rc rs rk K 371 lv st σ c n = z_st cl po rc rs rk K (.invokevirtual 40) [] 371 lv st σ c n := (rfl)
set_option maxRecDepth 100000 in
theorem hL_law_374 (cl : List zC) (po : Option Value → bS → Nat → Nat → Prop) (rc rs rk : Nat) (K : zK) (lv : List (Nat × Value)) (st : List Value) (σ : bS) (c n : Nat) : z_hd tL_law cl po rc rs rk K 374 lv st σ c n = z_st cl po rc rs rk K (.aload_n 1) [] 374 lv st σ c n := (rfl)
set_option maxRecDepth 100000 in
theorem hL_law_375 (cl : List zC) (po : Option Value → bS → Nat → Nat → Prop) (rc rs rk : Nat) (K : zK) (lv : List (Nat × Value)) (st : List Value) (σ : bS) (c n : Nat) : z_hd tL_law cl po rc rs rk K 375 lv st σ c n = z_st cl po rc rs rk K (.iload 11) [] 375 lv st σ c n := (rfl)
set_option maxRecDepth 100000 in
theorem hL_law_377 (cl : List zC) (po : Option Value → bS → Nat → Nat → Prop) (rc rs rk : Nat) (K : zK) (lv : List (Nat × Value)) (st : List Value) (σ : bS) (c n : Nat) : z_hd tL_law cl po rc rs rk K 377 lv st σ c n = z_st cl po rc rs rk K (.iconst 0) [] 377 lv st σ c n := (rfl)
set_option maxRecDepth 100000 in
theorem hL_law_378 (cl : List zC) (po : Option Value → bS → Nat → Nat → Prop) (rc rs rk : Nat) (K : zK) (lv : List (Nat × Value)) (st : List Value) (σ : bS) (c n : Nat) : z_hd tL_law cl po rc rs rk K 378 lv st σ c n = z_st cl po rc rs rk K (.invokevirtual 43) [] 378 lv st σ c n := (rfl)
set_option maxRecDepth 100000 in
theorem hL_law_381 (cl : List zC) (po : Option Value → bS → Nat → Nat → Prop) (rc rs rk : Nat) (K : zK) (lv : List (Nat × Value)) (st : List Value) (σ : bS) (c n : Nat) : z_hd tL_law cl po rc rs rk K 381 lv st σ c n = z_st cl po rc rs rk K (.if_icmp .ne 12) [393] 381 lv st σ c n := (rfl)
set_option maxRecDepth 100000 in
theorem hL_law_384 (cl : List zC) (po : Option Value → bS → Nat → Nat → Prop) (rc rs rk : Nat) (K : zK) (lv : List (Nat × Value)) (st : List Value) (σ : bS) (c n : Nat) : z_hd tL_law cl po rc rs rk K 384 lv st σ c n = z_st cl po rc rs rk K (.aload_n 1) [] 384 lv st σ c n := (rfl)
set_option maxRecDepth 100000 in
theorem hL_law_385 (cl : List zC) (po : Option Value → bS → Nat → Nat → Prop) (rc rs rk : Nat) (K : zK) (lv : List (Nat × Value)) (st : List Value) (σ : bS) (c n : Nat) : z_hd tL_law cl po rc rs rk K 385 lv st σ c n = z_st cl po rc rs rk K (.iload_n 2) [] 385 lv st σ c n := (rfl)
set_option maxRecDepth 100000 in
theorem hL_law_386 (cl : List zC) (po : Option Value → bS → Nat → Nat → Prop) (rc rs rk : Nat) (K : zK) (lv : List (Nat × Value)) (st : List Value) (σ : bS) (c n : Nat) : z_hd tL_law cl po rc rs rk K 386 lv st σ c n = z_st cl po rc rs rk K (.iconst 0) [] 386 lv st σ c n := (rfl)
set_option maxRecDepth 100000 in
theorem hL_law_387 (cl : List zC) (po : Option Value → bS → Nat → Nat → Prop) (rc rs rk : Nat) (K : zK) (lv : List (Nat × Value)) (st : List Value) (σ : bS) (c n : Nat) : z_hd tL_law cl po rc rs rk K 387 lv st σ c n = z_st cl po rc rs rk K (.invokevirtual 40) [] 387 lv st σ c n := (rfl)
set_option maxRecDepth 100000 in
theorem hL_law_390 (cl : List zC) (po : Option Value → bS → Nat → Nat → Prop) (rc rs rk : Nat) (K : zK) (lv : List (Nat × Value)) (st : List Value) (σ : bS) (c n : Nat) : z_hd tL_law cl po rc rs rk K 390 lv st σ c n = z_st cl po rc rs rk K (.ifCond .eq 5) [395] 390 lv st σ c n := (rfl)
set_option maxRecDepth 100000 in
theorem hL_law_393 (cl : List zC) (po : Option Value → bS → Nat → Nat → Prop) (rc rs rk : Nat) (K : zK) (lv : List (Nat × Value)) (st : List Value) (σ : bS) (c n : Nat) : z_hd tL_law cl po rc rs rk K 393 lv st σ c n = z_st cl po rc rs rk K (.iconst 0) [] 393 lv st σ c n := (rfl)
set_option maxRecDepth 100000 in
theorem hL_law_394 (cl : List zC) (po : Option Value → bS → Nat → Nat → Prop) (rc rs rk : Nat) (K : zK) (lv : List (Nat × Value)) (st : List Value) (σ : bS) (c n : Nat) : z_hd tL_law cl po rc rs rk K 394 lv st σ c n = z_st cl po rc rs rk K (.ireturn) [] 394 lv st σ c n := (rfl)
set_option maxRecDepth 100000 in
theorem hL_law_395 (cl : List zC) (po : Option Value → bS → Nat → Nat → Prop) (rc rs rk : Nat) (K : zK) (lv : List (Nat × Value)) (st : List Value) (σ : bS) (c n : Nat) : z_hd tL_law cl po rc rs rk K 395 lv st σ c n = z_st cl po rc rs rk K (.aload 7) [] 395 lv st σ c n := (rfl)
set_option maxRecDepth 100000 in
theorem hL_law_397 (cl : List zC) (po : Option Value → bS → Nat → Nat → Prop) (rc rs rk : Nat) (K : zK) (lv : List (Nat × Value)) (st : List Value) (σ : bS) (c n : Nat) : z_hd tL_law cl po rc rs rk K 397 lv st σ c n = z_st cl po rc rs rk K (.iload_n 2) [] 397 lv st σ c n := (rfl)
set_option maxRecDepth 100000 in
theorem hL_law_398 (cl : List zC) (po : Option Value → bS → Nat → Nat → Prop) (rc rs rk : Nat) (K : zK) (lv : List (Nat × Value)) (st : List Value) (σ : bS) (c n : Nat) : z_hd tL_law cl po rc rs rk K 398 lv st σ c n = z_st cl po rc rs rk K (.aload_n 1) [] 398 lv st σ c n := (rfl)
set_option maxRecDepth 100000 in
theorem hL_law_399 (cl : List zC) (po : Option Value → bS → Nat → Nat → Prop) (rc rs rk : Nat) (K : zK) (lv : List (Nat × Value)) (st : List Value) (σ : bS) (c n : Nat) : z_hd tL_law cl po rc rs rk K 399 lv st σ c n = z_st cl po rc rs rk K (.iload_n 2) [] 399 lv st σ c n := (rfl)
set_option maxRecDepth 100000 in
theorem hL_law_400 (cl : List zC) (po : Option Value → bS → Nat → Nat → Prop) (rc rs rk : Nat) (K : zK) (lv : List (Nat × Value)) (st : List Value) (σ : bS) (c n : Nat) : z_hd tL_law cl po rc rs rk K 400 lv st σ c n = z_st cl po rc rs rk K (.iconst 5) [] 400 lv st σ c n := (rfl)
set_option maxRecDepth 100000 in
theorem hL_law_401 (cl : List zC) (po : Option Value → bS → Nat → Nat → Prop) (rc rs rk : Nat) (K : zK) (lv : List (Nat × Value)) (st : List Value) (σ : bS) (c n : Nat) : z_hd tL_law cl po rc rs rk K 401 lv st σ c n = z_st cl po rc rs rk K (.invokevirtual 40) [] 401 lv st σ c n := (rfl)
set_option maxRecDepth 100000 in
theorem hL_law_404 (cl : List zC) (po : Option Value → bS → Nat → Nat → Prop) (rc rs rk : Nat) (K : zK) (lv : List (Nat × Value)) (st : List Value) (σ : bS) (c n : Nat) : z_hd tL_law cl po rc rs rk K 404 lv st σ c n = z_st cl po rc rs rk K (.iastore) [] 404 lv st σ c n := (rfl)
set_option maxRecDepth 100000 in
theorem hL_law_405 (cl : List zC) (po : Option Value → bS → Nat → Nat → Prop) (rc rs rk : Nat) (K : zK) (lv : List (Nat × Value)) (st : List Value) (σ : bS) (c n : Nat) : z_hd tL_law cl po rc rs rk K 405 lv st σ c n = z_st cl po rc rs rk K (.iinc 2 1) [] 405 lv st σ c n := (rfl)
set_option maxRecDepth 100000 in
theorem hL_law_408 (cl : List zC) (po : Option Value → bS → Nat → Nat → Prop) (rc rs rk : Nat) (K : zK) (lv : List (Nat × Value)) (st : List Value) (σ : bS) (c n : Nat) : z_hd tL_law cl po rc rs rk K 408 lv st σ c n = z_st cl po rc rs rk K (.goto 684) [1092] 408 lv st σ c n := (rfl)
set_option maxRecDepth 100000 in
theorem hL_law_411 (cl : List zC) (po : Option Value → bS → Nat → Nat → Prop) (rc rs rk : Nat) (K : zK) (lv : List (Nat × Value)) (st : List Value) (σ : bS) (c n : Nat) : z_hd tL_law cl po rc rs rk K 411 lv st σ c n = z_st cl po rc rs rk K (.aload_n 1) [] 411 lv st σ c n := (rfl)
set_option maxRecDepth 100000 in
theorem hL_law_412 (cl : List zC) (po : Option Value → bS → Nat → Nat → Prop) (rc rs rk : Nat) (K : zK) (lv : List (Nat × Value)) (st : List Value) (σ : bS) (c n : Nat) : z_hd tL_law cl po rc rs rk K 412 lv st σ c n = z_st cl po rc rs rk K (.iload 10) [] 412 lv st σ c n := (rfl)
set_option maxRecDepth 100000 in
theorem hL_law_414 (cl : List zC) (po : Option Value → bS → Nat → Nat → Prop) (rc rs rk : Nat) (K : zK) (lv : List (Nat × Value)) (st : List Value) (σ : bS) (c n : Nat) : z_hd tL_law cl po rc rs rk K 414 lv st σ c n = z_st cl po rc rs rk K (.bipush 9) [] 414 lv st σ c n := (rfl)
set_option maxRecDepth 100000 in
theorem hL_law_416 (cl : List zC) (po : Option Value → bS → Nat → Nat → Prop) (rc rs rk : Nat) (K : zK) (lv : List (Nat × Value)) (st : List Value) (σ : bS) (c n : Nat) : z_hd tL_law cl po rc rs rk K 416 lv st σ c n = z_st cl po rc rs rk K (.invokevirtual 46) [] 416 lv st σ c n := (rfl)
set_option maxRecDepth 100000 in
theorem hL_law_419 (cl : List zC) (po : Option Value → bS → Nat → Nat → Prop) (rc rs rk : Nat) (K : zK) (lv : List (Nat × Value)) (st : List Value) (σ : bS) (c n : Nat) : z_hd tL_law cl po rc rs rk K 419 lv st σ c n = z_st cl po rc rs rk K (.istore 18) [] 419 lv st σ c n := (rfl)
set_option maxRecDepth 100000 in
theorem hL_law_421 (cl : List zC) (po : Option Value → bS → Nat → Nat → Prop) (rc rs rk : Nat) (K : zK) (lv : List (Nat × Value)) (st : List Value) (σ : bS) (c n : Nat) : z_hd tL_law cl po rc rs rk K 421 lv st σ c n = z_st cl po rc rs rk K (.aload_n 1) [] 421 lv st σ c n := (rfl)
set_option maxRecDepth 100000 in
theorem hL_law_422 (cl : List zC) (po : Option Value → bS → Nat → Nat → Prop) (rc rs rk : Nat) (K : zK) (lv : List (Nat × Value)) (st : List Value) (σ : bS) (c n : Nat) : z_hd tL_law cl po rc rs rk K 422 lv st σ c n = z_st cl po rc rs rk K (.iload 10) [] 422 lv st σ c n := (rfl)
set_option maxRecDepth 100000 in
theorem hL_law_424 (cl : List zC) (po : Option Value → bS → Nat → Nat → Prop) (rc rs rk : Nat) (K : zK) (lv : List (Nat × Value)) (st : List Value) (σ : bS) (c n : Nat) : z_hd tL_law cl po rc rs rk K 424 lv st σ c n = z_st cl po rc rs rk K (.invokevirtual 49) [] 424 lv st σ c n := (rfl)
set_option maxRecDepth 100000 in
theorem hL_law_427 (cl : List zC) (po : Option Value → bS → Nat → Nat → Prop) (rc rs rk : Nat) (K : zK) (lv : List (Nat × Value)) (st : List Value) (σ : bS) (c n : Nat) : z_hd tL_law cl po rc rs rk K 427 lv st σ c n = z_st cl po rc rs rk K (.iload 18) [] 427 lv st σ c n := (rfl)
set_option maxRecDepth 100000 in
theorem hL_law_429 (cl : List zC) (po : Option Value → bS → Nat → Nat → Prop) (rc rs rk : Nat) (K : zK) (lv : List (Nat × Value)) (st : List Value) (σ : bS) (c n : Nat) : z_hd tL_law cl po rc rs rk K 429 lv st σ c n = z_st cl po rc rs rk K (.if_icmp .ne 14) [443] 429 lv st σ c n := (rfl)
set_option maxRecDepth 100000 in
theorem hL_law_432 (cl : List zC) (po : Option Value → bS → Nat → Nat → Prop) (rc rs rk : Nat) (K : zK) (lv : List (Nat × Value)) (st : List Value) (σ : bS) (c n : Nat) : z_hd tL_law cl po rc rs rk K 432 lv st σ c n = z_st cl po rc rs rk K (.aload_n 1) [] 432 lv st σ c n := (rfl)
set_option maxRecDepth 100000 in
theorem hL_law_433 (cl : List zC) (po : Option Value → bS → Nat → Nat → Prop) (rc rs rk : Nat) (K : zK) (lv : List (Nat × Value)) (st : List Value) (σ : bS) (c n : Nat) : z_hd tL_law cl po rc rs rk K 433 lv st σ c n = z_st cl po rc rs rk K (.iload 10) [] 433 lv st σ c n := (rfl)
set_option maxRecDepth 100000 in
theorem hL_law_435 (cl : List zC) (po : Option Value → bS → Nat → Nat → Prop) (rc rs rk : Nat) (K : zK) (lv : List (Nat × Value)) (st : List Value) (σ : bS) (c n : Nat) : z_hd tL_law cl po rc rs rk K 435 lv st σ c n = z_st cl po rc rs rk K (.bipush 9) [] 435 lv st σ c n := (rfl)
set_option maxRecDepth 100000 in
theorem hL_law_437 (cl : List zC) (po : Option Value → bS → Nat → Nat → Prop) (rc rs rk : Nat) (K : zK) (lv : List (Nat × Value)) (st : List Value) (σ : bS) (c n : Nat) : z_hd tL_law cl po rc rs rk K 437 lv st σ c n = z_st cl po rc rs rk K (.invokevirtual 46) [] 437 lv st σ c n := (rfl)
set_option maxRecDepth 100000 in
theorem hL_law_440 (cl : List zC) (po : Option Value → bS → Nat → Nat → Prop) (rc rs rk : Nat) (K : zK) (lv : List (Nat × Value)) (st : List Value) (σ : bS) (c n : Nat) : z_hd tL_law cl po rc rs rk K 440 lv st σ c n = z_st cl po rc rs rk K (.ifCond .eq 652) [1092] 440 lv st σ c n := (rfl)
set_option maxRecDepth 100000 in
theorem hL_law_443 (cl : List zC) (po : Option Value → bS → Nat → Nat → Prop) (rc rs rk : Nat) (K : zK) (lv : List (Nat × Value)) (st : List Value) (σ : bS) (c n : Nat) : z_hd tL_law cl po rc rs rk K 443 lv st σ c n = z_st cl po rc rs rk K (.iconst 0) [] 443 lv st σ c n := (rfl)
set_option maxRecDepth 100000 in
theorem hL_law_444 (cl : List zC) (po : Option Value → bS → Nat → Nat → Prop) (rc rs rk : Nat) (K : zK) (lv : List (Nat × Value)) (st : List Value) (σ : bS) (c n : Nat) : z_hd tL_law cl po rc rs rk K 444 lv st σ c n = z_st cl po rc rs rk K (.ireturn) [] 444 lv st σ c n := (rfl)
set_option maxRecDepth 100000 in
theorem hL_law_445 (cl : List zC) (po : Option Value → bS → Nat → Nat → Prop) (rc rs rk : Nat) (K : zK) (lv : List (Nat × Value)) (st : List Value) (σ : bS) (c n : Nat) : z_hd tL_law cl po rc rs rk K 445 lv st σ c n = z_st cl po rc rs rk K (.aload_n 1) [] 445 lv st σ c n := (rfl)
set_option maxRecDepth 100000 in
theorem hL_law_446 (cl : List zC) (po : Option Value → bS → Nat → Nat → Prop) (rc rs rk : Nat) (K : zK) (lv : List (Nat × Value)) (st : List Value) (σ : bS) (c n : Nat) : z_hd tL_law cl po rc rs rk K 446 lv st σ c n = z_st cl po rc rs rk K (.iload 10) [] 446 lv st σ c n := (rfl)
set_option maxRecDepth 100000 in
theorem hL_law_448 (cl : List zC) (po : Option Value → bS → Nat → Nat → Prop) (rc rs rk : Nat) (K : zK) (lv : List (Nat × Value)) (st : List Value) (σ : bS) (c n : Nat) : z_hd tL_law cl po rc rs rk K 448 lv st σ c n = z_st cl po rc rs rk K (.iload 9) [] 448 lv st σ c n := (rfl)
set_option maxRecDepth 100000 in
theorem hL_law_450 (cl : List zC) (po : Option Value → bS → Nat → Nat → Prop) (rc rs rk : Nat) (K : zK) (lv : List (Nat × Value)) (st : List Value) (σ : bS) (c n : Nat) : z_hd tL_law cl po rc rs rk K 450 lv st σ c n = z_st cl po rc rs rk K (.bipush 7) [] 450 lv st σ c n := (rfl)
set_option maxRecDepth 100000 in
theorem hL_law_452 (cl : List zC) (po : Option Value → bS → Nat → Nat → Prop) (rc rs rk : Nat) (K : zK) (lv : List (Nat × Value)) (st : List Value) (σ : bS) (c n : Nat) : z_hd tL_law cl po rc rs rk K 452 lv st σ c n = z_st cl po rc rs rk K (.ishr) [] 452 lv st σ c n := (rfl)
set_option maxRecDepth 100000 in
theorem hL_law_453 (cl : List zC) (po : Option Value → bS → Nat → Nat → Prop) (rc rs rk : Nat) (K : zK) (lv : List (Nat × Value)) (st : List Value) (σ : bS) (c n : Nat) : z_hd tL_law cl po rc rs rk K 453 lv st σ c n = z_st cl po rc rs rk K (.iconst 4) [] 453 lv st σ c n := (rfl)
set_option maxRecDepth 100000 in
theorem hL_law_454 (cl : List zC) (po : Option Value → bS → Nat → Nat → Prop) (rc rs rk : Nat) (K : zK) (lv : List (Nat × Value)) (st : List Value) (σ : bS) (c n : Nat) : z_hd tL_law cl po rc rs rk K 454 lv st σ c n = z_st cl po rc rs rk K (.invokestatic 18) [] 454 lv st σ c n := (rfl)
set_option maxRecDepth 100000 in
theorem hL_law_457 (cl : List zC) (po : Option Value → bS → Nat → Nat → Prop) (rc rs rk : Nat) (K : zK) (lv : List (Nat × Value)) (st : List Value) (σ : bS) (c n : Nat) : z_hd tL_law cl po rc rs rk K 457 lv st σ c n = z_st cl po rc rs rk K (.invokevirtual 52) [] 457 lv st σ c n := (rfl)
set_option maxRecDepth 100000 in
theorem hL_law_460 (cl : List zC) (po : Option Value → bS → Nat → Nat → Prop) (rc rs rk : Nat) (K : zK) (lv : List (Nat × Value)) (st : List Value) (σ : bS) (c n : Nat) : z_hd tL_law cl po rc rs rk K 460 lv st σ c n = z_st cl po rc rs rk K (.iconst 3) [] 460 lv st σ c n := (rfl)
set_option maxRecDepth 100000 in
theorem hL_law_461 (cl : List zC) (po : Option Value → bS → Nat → Nat → Prop) (rc rs rk : Nat) (K : zK) (lv : List (Nat × Value)) (st : List Value) (σ : bS) (c n : Nat) : z_hd tL_law cl po rc rs rk K 461 lv st σ c n = z_st cl po rc rs rk K (.if_icmp .le 631) [1092] 461 lv st σ c n := (rfl)
set_option maxRecDepth 100000 in
theorem hL_law_464 (cl : List zC) (po : Option Value → bS → Nat → Nat → Prop) (rc rs rk : Nat) (K : zK) (lv : List (Nat × Value)) (st : List Value) (σ : bS) (c n : Nat) : z_hd tL_law cl po rc rs rk K 464 lv st σ c n = z_st cl po rc rs rk K (.iconst 0) [] 464 lv st σ c n := (rfl)
set_option maxRecDepth 100000 in
theorem hL_law_465 (cl : List zC) (po : Option Value → bS → Nat → Nat → Prop) (rc rs rk : Nat) (K : zK) (lv : List (Nat × Value)) (st : List Value) (σ : bS) (c n : Nat) : z_hd tL_law cl po rc rs rk K 465 lv st σ c n = z_st cl po rc rs rk K (.ireturn) [] 465 lv st σ c n := (rfl)
set_option maxRecDepth 100000 in
theorem hL_law_466 (cl : List zC) (po : Option Value → bS → Nat → Nat → Prop) (rc rs rk : Nat) (K : zK) (lv : List (Nat × Value)) (st : List Value) (σ : bS) (c n : Nat) : z_hd tL_law cl po rc rs rk K 466 lv st σ c n = z_st cl po rc rs rk K (.aload_n 1) [] 466 lv st σ c n := (rfl)
set_option maxRecDepth 100000 in
theorem hL_law_467 (cl : List zC) (po : Option Value → bS → Nat → Nat → Prop) (rc rs rk : Nat) (K : zK) (lv : List (Nat × Value)) (st : List Value) (σ : bS) (c n : Nat) : z_hd tL_law cl po rc rs rk K 467 lv st σ c n = z_st cl po rc rs rk K (.iload 10) [] 467 lv st σ c n := (rfl)
set_option maxRecDepth 100000 in
theorem hL_law_469 (cl : List zC) (po : Option Value → bS → Nat → Nat → Prop) (rc rs rk : Nat) (K : zK) (lv : List (Nat × Value)) (st : List Value) (σ : bS) (c n : Nat) : z_hd tL_law cl po rc rs rk K 469 lv st σ c n = z_st cl po rc rs rk K (.iconst 5) [] 469 lv st σ c n := (rfl)
set_option maxRecDepth 100000 in
theorem hL_law_470 (cl : List zC) (po : Option Value → bS → Nat → Nat → Prop) (rc rs rk : Nat) (K : zK) (lv : List (Nat × Value)) (st : List Value) (σ : bS) (c n : Nat) : z_hd tL_law cl po rc rs rk K 470 lv st σ c n = z_st cl po rc rs rk K (.invokevirtual 46) [] 470 lv st σ c n := (rfl)
set_option maxRecDepth 100000 in
theorem hL_law_473 (cl : List zC) (po : Option Value → bS → Nat → Nat → Prop) (rc rs rk : Nat) (K : zK) (lv : List (Nat × Value)) (st : List Value) (σ : bS) (c n : Nat) : z_hd tL_law cl po rc rs rk K 473 lv st σ c n = z_st cl po rc rs rk K (.istore 18) [] 473 lv st σ c n := (rfl)
set_option maxRecDepth 100000 in
theorem hL_law_475 (cl : List zC) (po : Option Value → bS → Nat → Nat → Prop) (rc rs rk : Nat) (K : zK) (lv : List (Nat × Value)) (st : List Value) (σ : bS) (c n : Nat) : z_hd tL_law cl po rc rs rk K 475 lv st σ c n = z_st cl po rc rs rk K (.iload 18) [] 475 lv st σ c n := (rfl)
set_option maxRecDepth 100000 in
theorem hL_law_477 (cl : List zC) (po : Option Value → bS → Nat → Nat → Prop) (rc rs rk : Nat) (K : zK) (lv : List (Nat × Value)) (st : List Value) (σ : bS) (c n : Nat) : z_hd tL_law cl po rc rs rk K 477 lv st σ c n = z_st cl po rc rs rk K (.ifCond .le 615) [1092] 477 lv st σ c n := (rfl)
set_option maxRecDepth 100000 in
theorem hL_law_480 (cl : List zC) (po : Option Value → bS → Nat → Nat → Prop) (rc rs rk : Nat) (K : zK) (lv : List (Nat × Value)) (st : List Value) (σ : bS) (c n : Nat) : z_hd tL_law cl po rc rs rk K 480 lv st σ c n = z_st cl po rc rs rk K (.aload_n 1) [] 480 lv st σ c n := (rfl)
set_option maxRecDepth 100000 in
theorem hL_law_481 (cl : List zC) (po : Option Value → bS → Nat → Nat → Prop) (rc rs rk : Nat) (K : zK) (lv : List (Nat × Value)) (st : List Value) (σ : bS) (c n : Nat) : z_hd tL_law cl po rc rs rk K 481 lv st σ c n = z_st cl po rc rs rk K (.iload 10) [] 481 lv st σ c n := (rfl)
set_option maxRecDepth 100000 in
theorem hL_law_483 (cl : List zC) (po : Option Value → bS → Nat → Nat → Prop) (rc rs rk : Nat) (K : zK) (lv : List (Nat × Value)) (st : List Value) (σ : bS) (c n : Nat) : z_hd tL_law cl po rc rs rk K 483 lv st σ c n = z_st cl po rc rs rk K (.invokevirtual 55) [] 483 lv st σ c n := (rfl)
set_option maxRecDepth 100000 in
theorem hL_law_486 (cl : List zC) (po : Option Value → bS → Nat → Nat → Prop) (rc rs rk : Nat) (K : zK) (lv : List (Nat × Value)) (st : List Value) (σ : bS) (c n : Nat) : z_hd tL_law cl po rc rs rk K 486 lv st σ c n = z_st cl po rc rs rk K (.iload 18) [] 486 lv st σ c n := (rfl)
set_option maxRecDepth 100000 in
theorem hL_law_488 (cl : List zC) (po : Option Value → bS → Nat → Nat → Prop) (rc rs rk : Nat) (K : zK) (lv : List (Nat × Value)) (st : List Value) (σ : bS) (c n : Nat) : z_hd tL_law cl po rc rs rk K 488 lv st σ c n = z_st cl po rc rs rk K (.if_icmp .ne 7) [495] 488 lv st σ c n := (rfl)
set_option maxRecDepth 100000 in
theorem hL_law_491 (cl : List zC) (po : Option Value → bS → Nat → Nat → Prop) (rc rs rk : Nat) (K : zK) (lv : List (Nat × Value)) (st : List Value) (σ : bS) (c n : Nat) : z_hd tL_law cl po rc rs rk K 491 lv st σ c n = z_st cl po rc rs rk K (.iconst 1) [] 491 lv st σ c n := (rfl)
set_option maxRecDepth 100000 in
theorem hL_law_492 (cl : List zC) (po : Option Value → bS → Nat → Nat → Prop) (rc rs rk : Nat) (K : zK) (lv : List (Nat × Value)) (st : List Value) (σ : bS) (c n : Nat) : z_hd tL_law cl po rc rs rk K 492 lv st σ c n = z_st cl po rc rs rk K (.goto 4) [496] 492 lv st σ c n := (rfl)
set_option maxRecDepth 100000 in
theorem hL_law_495 (cl : List zC) (po : Option Value → bS → Nat → Nat → Prop) (rc rs rk : Nat) (K : zK) (lv : List (Nat × Value)) (st : List Value) (σ : bS) (c n : Nat) : z_hd tL_law cl po rc rs rk K 495 lv st σ c n = z_st cl po rc rs rk K (.iconst 0) [] 495 lv st σ c n := (rfl)
set_option maxRecDepth 100000 in
theorem hL_law_496 (cl : List zC) (po : Option Value → bS → Nat → Nat → Prop) (rc rs rk : Nat) (K : zK) (lv : List (Nat × Value)) (st : List Value) (σ : bS) (c n : Nat) : z_hd tL_law cl po rc rs rk K 496 lv st σ c n = z_st cl po rc rs rk K (.aload_n 1) [] 496 lv st σ c n := (rfl)
set_option maxRecDepth 100000 in
theorem hL_law_497 (cl : List zC) (po : Option Value → bS → Nat → Nat → Prop) (rc rs rk : Nat) (K : zK) (lv : List (Nat × Value)) (st : List Value) (σ : bS) (c n : Nat) : z_hd tL_law cl po rc rs rk K 497 lv st σ c n = z_st cl po rc rs rk K (.iload 10) [] 497 lv st σ c n := (rfl)
set_option maxRecDepth 100000 in
theorem hL_law_499 (cl : List zC) (po : Option Value → bS → Nat → Nat → Prop) (rc rs rk : Nat) (K : zK) (lv : List (Nat × Value)) (st : List Value) (σ : bS) (c n : Nat) : z_hd tL_law cl po rc rs rk K 499 lv st σ c n = z_st cl po rc rs rk K (.iconst 5) [] 499 lv st σ c n := (rfl)
set_option maxRecDepth 100000 in
theorem hL_law_500 (cl : List zC) (po : Option Value → bS → Nat → Nat → Prop) (rc rs rk : Nat) (K : zK) (lv : List (Nat × Value)) (st : List Value) (σ : bS) (c n : Nat) : z_hd tL_law cl po rc rs rk K 500 lv st σ c n = z_st cl po rc rs rk K (.invokevirtual 46) [] 500 lv st σ c n := (rfl)
set_option maxRecDepth 100000 in
theorem hL_law_503 (cl : List zC) (po : Option Value → bS → Nat → Nat → Prop) (rc rs rk : Nat) (K : zK) (lv : List (Nat × Value)) (st : List Value) (σ : bS) (c n : Nat) : z_hd tL_law cl po rc rs rk K 503 lv st σ c n = z_st cl po rc rs rk K (.ifCond .ne 7) [510] 503 lv st σ c n := (rfl)
set_option maxRecDepth 100000 in
theorem hL_law_506 (cl : List zC) (po : Option Value → bS → Nat → Nat → Prop) (rc rs rk : Nat) (K : zK) (lv : List (Nat × Value)) (st : List Value) (σ : bS) (c n : Nat) : z_hd tL_law cl po rc rs rk K 506 lv st σ c n = z_st cl po rc rs rk K (.iconst 1) [] 506 lv st σ c n := (rfl)
set_option maxRecDepth 100000 in
theorem hL_law_507 (cl : List zC) (po : Option Value → bS → Nat → Nat → Prop) (rc rs rk : Nat) (K : zK) (lv : List (Nat × Value)) (st : List Value) (σ : bS) (c n : Nat) : z_hd tL_law cl po rc rs rk K 507 lv st σ c n = z_st cl po rc rs rk K (.goto 4) [511] 507 lv st σ c n := (rfl)
set_option maxRecDepth 100000 in
theorem hL_law_510 (cl : List zC) (po : Option Value → bS → Nat → Nat → Prop) (rc rs rk : Nat) (K : zK) (lv : List (Nat × Value)) (st : List Value) (σ : bS) (c n : Nat) : z_hd tL_law cl po rc rs rk K 510 lv st σ c n = z_st cl po rc rs rk K (.iconst 0) [] 510 lv st σ c n := (rfl)
set_option maxRecDepth 100000 in
theorem hL_law_511 (cl : List zC) (po : Option Value → bS → Nat → Nat → Prop) (rc rs rk : Nat) (K : zK) (lv : List (Nat × Value)) (st : List Value) (σ : bS) (c n : Nat) : z_hd tL_law cl po rc rs rk K 511 lv st σ c n = z_st cl po rc rs rk K (.if_icmp .eq 581) [1092] 511 lv st σ c n := (rfl)
set_option maxRecDepth 100000 in
theorem hL_law_514 (cl : List zC) (po : Option Value → bS → Nat → Nat → Prop) (rc rs rk : Nat) (K : zK) (lv : List (Nat × Value)) (st : List Value) (σ : bS) (c n : Nat) : z_hd tL_law cl po rc rs rk K 514 lv st σ c n = z_st cl po rc rs rk K (.iconst 0) [] 514 lv st σ c n := (rfl)
set_option maxRecDepth 100000 in
theorem hL_law_515 (cl : List zC) (po : Option Value → bS → Nat → Nat → Prop) (rc rs rk : Nat) (K : zK) (lv : List (Nat × Value)) (st : List Value) (σ : bS) (c n : Nat) : z_hd tL_law cl po rc rs rk K 515 lv st σ c n = z_st cl po rc rs rk K (.ireturn) [] 515 lv st σ c n := (rfl)
set_option maxRecDepth 100000 in
theorem hL_law_516 (cl : List zC) (po : Option Value → bS → Nat → Nat → Prop) (rc rs rk : Nat) (K : zK) (lv : List (Nat × Value)) (st : List Value) (σ : bS) (c n : Nat) : z_hd tL_law cl po rc rs rk K 516 lv st σ c n = z_st cl po rc rs rk K (.aload_n 1) [] 516 lv st σ c n := (rfl)
set_option maxRecDepth 100000 in
theorem hL_law_517 (cl : List zC) (po : Option Value → bS → Nat → Nat → Prop) (rc rs rk : Nat) (K : zK) (lv : List (Nat × Value)) (st : List Value) (σ : bS) (c n : Nat) : z_hd tL_law cl po rc rs rk K 517 lv st σ c n = z_st cl po rc rs rk K (.iload 10) [] 517 lv st σ c n := (rfl)
set_option maxRecDepth 100000 in
theorem hL_law_519 (cl : List zC) (po : Option Value → bS → Nat → Nat → Prop) (rc rs rk : Nat) (K : zK) (lv : List (Nat × Value)) (st : List Value) (σ : bS) (c n : Nat) : z_hd tL_law cl po rc rs rk K 519 lv st σ c n = z_st cl po rc rs rk K (.bipush 6) [] 519 lv st σ c n := (rfl)
set_option maxRecDepth 100000 in
theorem hL_law_521 (cl : List zC) (po : Option Value → bS → Nat → Nat → Prop) (rc rs rk : Nat) (K : zK) (lv : List (Nat × Value)) (st : List Value) (σ : bS) (c n : Nat) : z_hd tL_law cl po rc rs rk K 521 lv st σ c n = z_st cl po rc rs rk K (.invokevirtual 46) [] 521 lv st σ c n := (rfl)
set_option maxRecDepth 100000 in
theorem hL_law_524 (cl : List zC) (po : Option Value → bS → Nat → Nat → Prop) (rc rs rk : Nat) (K : zK) (lv : List (Nat × Value)) (st : List Value) (σ : bS) (c n : Nat) : z_hd tL_law cl po rc rs rk K 524 lv st σ c n = z_st cl po rc rs rk K (.istore 18) [] 524 lv st σ c n := (rfl)
set_option maxRecDepth 100000 in
theorem hL_law_526 (cl : List zC) (po : Option Value → bS → Nat → Nat → Prop) (rc rs rk : Nat) (K : zK) (lv : List (Nat × Value)) (st : List Value) (σ : bS) (c n : Nat) : z_hd tL_law cl po rc rs rk K 526 lv st σ c n = z_st cl po rc rs rk K (.iload 18) [] 526 lv st σ c n := (rfl)
set_option maxRecDepth 100000 in
theorem hL_law_528 (cl : List zC) (po : Option Value → bS → Nat → Nat → Prop) (rc rs rk : Nat) (K : zK) (lv : List (Nat × Value)) (st : List Value) (σ : bS) (c n : Nat) : z_hd tL_law cl po rc rs rk K 528 lv st σ c n = z_st cl po rc rs rk K (.ifCond .ge 6) [534] 528 lv st σ c n := (rfl)
set_option maxRecDepth 100000 in
theorem hL_law_531 (cl : List zC) (po : Option Value → bS → Nat → Nat → Prop) (rc rs rk : Nat) (K : zK) (lv : List (Nat × Value)) (st : List Value) (σ : bS) (c n : Nat) : z_hd tL_law cl po rc rs rk K 531 lv st σ c n = z_st cl po rc rs rk K (.goto 561) [1092] 531 lv st σ c n := (rfl)
set_option maxRecDepth 100000 in
theorem hL_law_534 (cl : List zC) (po : Option Value → bS → Nat → Nat → Prop) (rc rs rk : Nat) (K : zK) (lv : List (Nat × Value)) (st : List Value) (σ : bS) (c n : Nat) : z_hd tL_law cl po rc rs rk K 534 lv st σ c n = z_st cl po rc rs rk K (.iinc 16 8) [] 534 lv st σ c n := (rfl)
set_option maxRecDepth 100000 in
theorem hL_law_537 (cl : List zC) (po : Option Value → bS → Nat → Nat → Prop) (rc rs rk : Nat) (K : zK) (lv : List (Nat × Value)) (st : List Value) (σ : bS) (c n : Nat) : z_hd tL_law cl po rc rs rk K 537 lv st σ c n = z_st cl po rc rs rk K (.aload_n 1) [] 537 lv st σ c n := (rfl)
set_option maxRecDepth 100000 in
theorem hL_law_538 (cl : List zC) (po : Option Value → bS → Nat → Nat → Prop) (rc rs rk : Nat) (K : zK) (lv : List (Nat × Value)) (st : List Value) (σ : bS) (c n : Nat) : z_hd tL_law cl po rc rs rk K 538 lv st σ c n = z_st cl po rc rs rk K (.iload 10) [] 538 lv st σ c n := (rfl)
set_option maxRecDepth 100000 in
theorem hL_law_540 (cl : List zC) (po : Option Value → bS → Nat → Nat → Prop) (rc rs rk : Nat) (K : zK) (lv : List (Nat × Value)) (st : List Value) (σ : bS) (c n : Nat) : z_hd tL_law cl po rc rs rk K 540 lv st σ c n = z_st cl po rc rs rk K (.invokevirtual 58) [] 540 lv st σ c n := (rfl)
set_option maxRecDepth 100000 in
theorem hL_law_543 (cl : List zC) (po : Option Value → bS → Nat → Nat → Prop) (rc rs rk : Nat) (K : zK) (lv : List (Nat × Value)) (st : List Value) (σ : bS) (c n : Nat) : z_hd tL_law cl po rc rs rk K 543 lv st σ c n = z_st cl po rc rs rk K (.iload 18) [] 543 lv st σ c n := (rfl)
set_option maxRecDepth 100000 in
theorem hL_law_545 (cl : List zC) (po : Option Value → bS → Nat → Nat → Prop) (rc rs rk : Nat) (K : zK) (lv : List (Nat × Value)) (st : List Value) (σ : bS) (c n : Nat) : z_hd tL_law cl po rc rs rk K 545 lv st σ c n = z_st cl po rc rs rk K (.if_icmp .ne 15) [560] 545 lv st σ c n := (rfl)
set_option maxRecDepth 100000 in
theorem hL_law_548 (cl : List zC) (po : Option Value → bS → Nat → Nat → Prop) (rc rs rk : Nat) (K : zK) (lv : List (Nat × Value)) (st : List Value) (σ : bS) (c n : Nat) : z_hd tL_law cl po rc rs rk K 548 lv st σ c n = z_st cl po rc rs rk K (.aload_n 1) [] 548 lv st σ c n := (rfl)
set_option maxRecDepth 100000 in
theorem hL_law_549 (cl : List zC) (po : Option Value → bS → Nat → Nat → Prop) (rc rs rk : Nat) (K : zK) (lv : List (Nat × Value)) (st : List Value) (σ : bS) (c n : Nat) : z_hd tL_law cl po rc rs rk K 549 lv st σ c n = z_st cl po rc rs rk K (.iload 18) [] 549 lv st σ c n := (rfl)
set_option maxRecDepth 100000 in
theorem hL_law_551 (cl : List zC) (po : Option Value → bS → Nat → Nat → Prop) (rc rs rk : Nat) (K : zK) (lv : List (Nat × Value)) (st : List Value) (σ : bS) (c n : Nat) : z_hd tL_law cl po rc rs rk K 551 lv st σ c n = z_st cl po rc rs rk K (.iconst 0) [] 551 lv st σ c n := (rfl)
set_option maxRecDepth 100000 in
theorem hL_law_552 (cl : List zC) (po : Option Value → bS → Nat → Nat → Prop) (rc rs rk : Nat) (K : zK) (lv : List (Nat × Value)) (st : List Value) (σ : bS) (c n : Nat) : z_hd tL_law cl po rc rs rk K 552 lv st σ c n = z_st cl po rc rs rk K (.invokevirtual 40) [] 552 lv st σ c n := (rfl)
set_option maxRecDepth 100000 in
theorem hL_law_555 (cl : List zC) (po : Option Value → bS → Nat → Nat → Prop) (rc rs rk : Nat) (K : zK) (lv : List (Nat × Value)) (st : List Value) (σ : bS) (c n : Nat) : z_hd tL_law cl po rc rs rk K 555 lv st σ c n = z_st cl po rc rs rk K (.bipush 10) [] 555 lv st σ c n := (rfl)
set_option maxRecDepth 100000 in
theorem hL_law_557 (cl : List zC) (po : Option Value → bS → Nat → Nat → Prop) (rc rs rk : Nat) (K : zK) (lv : List (Nat × Value)) (st : List Value) (σ : bS) (c n : Nat) : z_hd tL_law cl po rc rs rk K 557 lv st σ c n = z_st cl po rc rs rk K (.if_icmp .eq 535) [1092] 557 lv st σ c n := (rfl)
set_option maxRecDepth 100000 in
theorem hL_law_560 (cl : List zC) (po : Option Value → bS → Nat → Nat → Prop) (rc rs rk : Nat) (K : zK) (lv : List (Nat × Value)) (st : List Value) (σ : bS) (c n : Nat) : z_hd tL_law cl po rc rs rk K 560 lv st σ c n = z_st cl po rc rs rk K (.iconst 0) [] 560 lv st σ c n := (rfl)
set_option maxRecDepth 100000 in
theorem hL_law_561 (cl : List zC) (po : Option Value → bS → Nat → Nat → Prop) (rc rs rk : Nat) (K : zK) (lv : List (Nat × Value)) (st : List Value) (σ : bS) (c n : Nat) : z_hd tL_law cl po rc rs rk K 561 lv st σ c n = z_st cl po rc rs rk K (.ireturn) [] 561 lv st σ c n := (rfl)
set_option maxRecDepth 100000 in
theorem hL_law_562 (cl : List zC) (po : Option Value → bS → Nat → Nat → Prop) (rc rs rk : Nat) (K : zK) (lv : List (Nat × Value)) (st : List Value) (σ : bS) (c n : Nat) : z_hd tL_law cl po rc rs rk K 562 lv st σ c n = z_st cl po rc rs rk K (.iload 12) [] 562 lv st σ c n := (rfl)
set_option maxRecDepth 100000 in
theorem hL_law_564 (cl : List zC) (po : Option Value → bS → Nat → Nat → Prop) (rc rs rk : Nat) (K : zK) (lv : List (Nat × Value)) (st : List Value) (σ : bS) (c n : Nat) : z_hd tL_law cl po rc rs rk K 564 lv st σ c n = z_st cl po rc rs rk K (.ifCond .lt 528) [1092] 564 lv st σ c n := (rfl)
set_option maxRecDepth 100000 in
theorem hL_law_567 (cl : List zC) (po : Option Value → bS → Nat → Nat → Prop) (rc rs rk : Nat) (K : zK) (lv : List (Nat × Value)) (st : List Value) (σ : bS) (c n : Nat) : z_hd tL_law cl po rc rs rk K 567 lv st σ c n = z_st cl po rc rs rk K (.aload_n 1) [] 567 lv st σ c n := (rfl)
set_option maxRecDepth 100000 in
theorem hL_law_568 (cl : List zC) (po : Option Value → bS → Nat → Nat → Prop) (rc rs rk : Nat) (K : zK) (lv : List (Nat × Value)) (st : List Value) (σ : bS) (c n : Nat) : z_hd tL_law cl po rc rs rk K 568 lv st σ c n = z_st cl po rc rs rk K (.iload 12) [] 568 lv st σ c n := (rfl)
set_option maxRecDepth 100000 in
theorem hL_law_570 (cl : List zC) (po : Option Value → bS → Nat → Nat → Prop) (rc rs rk : Nat) (K : zK) (lv : List (Nat × Value)) (st : List Value) (σ : bS) (c n : Nat) : z_hd tL_law cl po rc rs rk K 570 lv st σ c n = z_st cl po rc rs rk K (.iconst 0) [] 570 lv st σ c n := (rfl)
set_option maxRecDepth 100000 in
theorem hL_law_571 (cl : List zC) (po : Option Value → bS → Nat → Nat → Prop) (rc rs rk : Nat) (K : zK) (lv : List (Nat × Value)) (st : List Value) (σ : bS) (c n : Nat) : z_hd tL_law cl po rc rs rk K 571 lv st σ c n = z_st cl po rc rs rk K (.invokevirtual 40) [] 571 lv st σ c n := (rfl)
set_option maxRecDepth 100000 in
theorem hL_law_574 (cl : List zC) (po : Option Value → bS → Nat → Nat → Prop) (rc rs rk : Nat) (K : zK) (lv : List (Nat × Value)) (st : List Value) (σ : bS) (c n : Nat) : z_hd tL_law cl po rc rs rk K 574 lv st σ c n = z_st cl po rc rs rk K (.iconst 3) [] 574 lv st σ c n := (rfl)
set_option maxRecDepth 100000 in
theorem hL_law_575 (cl : List zC) (po : Option Value → bS → Nat → Nat → Prop) (rc rs rk : Nat) (K : zK) (lv : List (Nat × Value)) (st : List Value) (σ : bS) (c n : Nat) : z_hd tL_law cl po rc rs rk K 575 lv st σ c n = z_st cl po rc rs rk K (.if_icmp .eq 6) [581] 575 lv st σ c n := (rfl)
set_option maxRecDepth 100000 in
theorem hL_law_578 (cl : List zC) (po : Option Value → bS → Nat → Nat → Prop) (rc rs rk : Nat) (K : zK) (lv : List (Nat × Value)) (st : List Value) (σ : bS) (c n : Nat) : z_hd tL_law cl po rc rs rk K 578 lv st σ c n = z_st cl po rc rs rk K (.goto 514) [1092] 578 lv st σ c n := (rfl)
set_option maxRecDepth 100000 in
theorem hL_law_581 (cl : List zC) (po : Option Value → bS → Nat → Nat → Prop) (rc rs rk : Nat) (K : zK) (lv : List (Nat × Value)) (st : List Value) (σ : bS) (c n : Nat) : z_hd tL_law cl po rc rs rk K 581 lv st σ c n = z_st cl po rc rs rk K (.iinc 16 1) [] 581 lv st σ c n := (rfl)
set_option maxRecDepth 100000 in
theorem hL_law_584 (cl : List zC) (po : Option Value → bS → Nat → Nat → Prop) (rc rs rk : Nat) (K : zK) (lv : List (Nat × Value)) (st : List Value) (σ : bS) (c n : Nat) : z_hd tL_law cl po rc rs rk K 584 lv st σ c n = z_st cl po rc rs rk K (.aload_n 1) [] 584 lv st σ c n := (rfl)
set_option maxRecDepth 100000 in
theorem hL_law_585 (cl : List zC) (po : Option Value → bS → Nat → Nat → Prop) (rc rs rk : Nat) (K : zK) (lv : List (Nat × Value)) (st : List Value) (σ : bS) (c n : Nat) : z_hd tL_law cl po rc rs rk K 585 lv st σ c n = z_st cl po rc rs rk K (.iload 12) [] 585 lv st σ c n := (rfl)
set_option maxRecDepth 100000 in
theorem hL_law_587 (cl : List zC) (po : Option Value → bS → Nat → Nat → Prop) (rc rs rk : Nat) (K : zK) (lv : List (Nat × Value)) (st : List Value) (σ : bS) (c n : Nat) : z_hd tL_law cl po rc rs rk K 587 lv st σ c n = z_st cl po rc rs rk K (.invokevirtual 61) [] 587 lv st σ c n := (rfl)
set_option maxRecDepth 100000 in
theorem hL_law_590 (cl : List zC) (po : Option Value → bS → Nat → Nat → Prop) (rc rs rk : Nat) (K : zK) (lv : List (Nat × Value)) (st : List Value) (σ : bS) (c n : Nat) : z_hd tL_law cl po rc rs rk K 590 lv st σ c n = z_st cl po rc rs rk K (.iconst 2) [] 590 lv st σ c n := (rfl)
set_option maxRecDepth 100000 in
theorem hL_law_591 (cl : List zC) (po : Option Value → bS → Nat → Nat → Prop) (rc rs rk : Nat) (K : zK) (lv : List (Nat × Value)) (st : List Value) (σ : bS) (c n : Nat) : z_hd tL_law cl po rc rs rk K 591 lv st σ c n = z_st cl po rc rs rk K (.if_icmp .le 501) [1092] 591 lv st σ c n := (rfl)
set_option maxRecDepth 100000 in
theorem hL_law_594 (cl : List zC) (po : Option Value → bS → Nat → Nat → Prop) (rc rs rk : Nat) (K : zK) (lv : List (Nat × Value)) (st : List Value) (σ : bS) (c n : Nat) : z_hd tL_law cl po rc rs rk K 594 lv st σ c n = z_st cl po rc rs rk K (.iconst 0) [] 594 lv st σ c n := (rfl)
set_option maxRecDepth 100000 in
theorem hL_law_595 (cl : List zC) (po : Option Value → bS → Nat → Nat → Prop) (rc rs rk : Nat) (K : zK) (lv : List (Nat × Value)) (st : List Value) (σ : bS) (c n : Nat) : z_hd tL_law cl po rc rs rk K 595 lv st σ c n = z_st cl po rc rs rk K (.ireturn) [] 595 lv st σ c n := (rfl)
set_option maxRecDepth 100000 in
theorem hL_law_596 (cl : List zC) (po : Option Value → bS → Nat → Nat → Prop) (rc rs rk : Nat) (K : zK) (lv : List (Nat × Value)) (st : List Value) (σ : bS) (c n : Nat) : z_hd tL_law cl po rc rs rk K 596 lv st σ c n = z_st cl po rc rs rk K (.aload_n 1) [] 596 lv st σ c n := (rfl)
set_option maxRecDepth 100000 in
theorem hL_law_597 (cl : List zC) (po : Option Value → bS → Nat → Nat → Prop) (rc rs rk : Nat) (K : zK) (lv : List (Nat × Value)) (st : List Value) (σ : bS) (c n : Nat) : z_hd tL_law cl po rc rs rk K 597 lv st σ c n = z_st cl po rc rs rk K (.bipush 6) [] 597 lv st σ c n := (rfl)
set_option maxRecDepth 100000 in
theorem hL_law_599 (cl : List zC) (po : Option Value → bS → Nat → Nat → Prop) (rc rs rk : Nat) (K : zK) (lv : List (Nat × Value)) (st : List Value) (σ : bS) (c n : Nat) : z_hd tL_law cl po rc rs rk K 599 lv st σ c n = z_st cl po rc rs rk K (.invokevirtual 28) [] 599 lv st σ c n := (rfl)
set_option maxRecDepth 100000 in
theorem hL_law_602 (cl : List zC) (po : Option Value → bS → Nat → Nat → Prop) (rc rs rk : Nat) (K : zK) (lv : List (Nat × Value)) (st : List Value) (σ : bS) (c n : Nat) : z_hd tL_law cl po rc rs rk K 602 lv st σ c n = z_st cl po rc rs rk K (.istore 18) [] 602 lv st σ c n := (rfl)
set_option maxRecDepth 100000 in
theorem hL_law_604 (cl : List zC) (po : Option Value → bS → Nat → Nat → Prop) (rc rs rk : Nat) (K : zK) (lv : List (Nat × Value)) (st : List Value) (σ : bS) (c n : Nat) : z_hd tL_law cl po rc rs rk K 604 lv st σ c n = z_st cl po rc rs rk K (.aload_n 1) [] 604 lv st σ c n := (rfl)
set_option maxRecDepth 100000 in
theorem hL_law_605 (cl : List zC) (po : Option Value → bS → Nat → Nat → Prop) (rc rs rk : Nat) (K : zK) (lv : List (Nat × Value)) (st : List Value) (σ : bS) (c n : Nat) : z_hd tL_law cl po rc rs rk K 605 lv st σ c n = z_st cl po rc rs rk K (.iconst 1) [] 605 lv st σ c n := (rfl)
set_option maxRecDepth 100000 in
theorem hL_law_606 (cl : List zC) (po : Option Value → bS → Nat → Nat → Prop) (rc rs rk : Nat) (K : zK) (lv : List (Nat × Value)) (st : List Value) (σ : bS) (c n : Nat) : z_hd tL_law cl po rc rs rk K 606 lv st σ c n = z_st cl po rc rs rk K (.iload 9) [] 606 lv st σ c n := (rfl)
set_option maxRecDepth 100000 in
theorem hL_law_608 (cl : List zC) (po : Option Value → bS → Nat → Nat → Prop) (rc rs rk : Nat) (K : zK) (lv : List (Nat × Value)) (st : List Value) (σ : bS) (c n : Nat) : z_hd tL_law cl po rc rs rk K 608 lv st σ c n = z_st cl po rc rs rk K (.bipush 6) [] 608 lv st σ c n := (rfl)
set_option maxRecDepth 100000 in
theorem hL_law_610 (cl : List zC) (po : Option Value → bS → Nat → Nat → Prop) (rc rs rk : Nat) (K : zK) (lv : List (Nat × Value)) (st : List Value) (σ : bS) (c n : Nat) : z_hd tL_law cl po rc rs rk K 610 lv st σ c n = z_st cl po rc rs rk K (.ishr) [] 610 lv st σ c n := (rfl)
set_option maxRecDepth 100000 in
theorem hL_law_611 (cl : List zC) (po : Option Value → bS → Nat → Nat → Prop) (rc rs rk : Nat) (K : zK) (lv : List (Nat × Value)) (st : List Value) (σ : bS) (c n : Nat) : z_hd tL_law cl po rc rs rk K 611 lv st σ c n = z_st cl po rc rs rk K (.bipush 9) [] 611 lv st σ c n := (rfl)
set_option maxRecDepth 100000 in
theorem hL_law_613 (cl : List zC) (po : Option Value → bS → Nat → Nat → Prop) (rc rs rk : Nat) (K : zK) (lv : List (Nat × Value)) (st : List Value) (σ : bS) (c n : Nat) : z_hd tL_law cl po rc rs rk K 613 lv st σ c n = z_st cl po rc rs rk K (.invokestatic 18) [] 613 lv st σ c n := (rfl)
set_option maxRecDepth 100000 in
theorem hL_law_616 (cl : List zC) (po : Option Value → bS → Nat → Nat → Prop) (rc rs rk : Nat) (K : zK) (lv : List (Nat × Value)) (st : List Value) (σ : bS) (c n : Nat) : z_hd tL_law cl po rc rs rk K 616 lv st σ c n = z_st cl po rc rs rk K (.iadd) [] 616 lv st σ c n := (rfl)
set_option maxRecDepth 100000 in
theorem hL_law_617 (cl : List zC) (po : Option Value → bS → Nat → Nat → Prop) (rc rs rk : Nat) (K : zK) (lv : List (Nat × Value)) (st : List Value) (σ : bS) (c n : Nat) : z_hd tL_law cl po rc rs rk K 617 lv st σ c n = z_st cl po rc rs rk K (.invokevirtual 64) [] 617 lv st σ c n := (rfl)
set_option maxRecDepth 100000 in
theorem hL_law_620 (cl : List zC) (po : Option Value → bS → Nat → Nat → Prop) (rc rs rk : Nat) (K : zK) (lv : List (Nat × Value)) (st : List Value) (σ : bS) (c n : Nat) : z_hd tL_law cl po rc rs rk K 620 lv st σ c n = z_st cl po rc rs rk K (.istore 19) [] 620 lv st σ c n := (rfl)
set_option maxRecDepth 100000 in
theorem hL_law_622 (cl : List zC) (po : Option Value → bS → Nat → Nat → Prop) (rc rs rk : Nat) (K : zK) (lv : List (Nat × Value)) (st : List Value) (σ : bS) (c n : Nat) : z_hd tL_law cl po rc rs rk K 622 lv st σ c n = z_st cl po rc rs rk K (.aload_n 1) [] 622 lv st σ c n := (rfl)
set_option maxRecDepth 100000 in
theorem hL_law_623 (cl : List zC) (po : Option Value → bS → Nat → Nat → Prop) (rc rs rk : Nat) (K : zK) (lv : List (Nat × Value)) (st : List Value) (σ : bS) (c n : Nat) : z_hd tL_law cl po rc rs rk K 623 lv st σ c n = z_st cl po rc rs rk K (.bipush 6) [] 623 lv st σ c n := (rfl)
set_option maxRecDepth 100000 in
theorem hL_law_625 (cl : List zC) (po : Option Value → bS → Nat → Nat → Prop) (rc rs rk : Nat) (K : zK) (lv : List (Nat × Value)) (st : List Value) (σ : bS) (c n : Nat) : z_hd tL_law cl po rc rs rk K 625 lv st σ c n = z_st cl po rc rs rk K (.invokevirtual 28) [] 625 lv st σ c n := (rfl)
set_option maxRecDepth 100000 in
theorem hL_law_628 (cl : List zC) (po : Option Value → bS → Nat → Nat → Prop) (rc rs rk : Nat) (K : zK) (lv : List (Nat × Value)) (st : List Value) (σ : bS) (c n : Nat) : z_hd tL_law cl po rc rs rk K 628 lv st σ c n = z_st cl po rc rs rk K (.iload 18) [] 628 lv st σ c n := (rfl)
set_option maxRecDepth 100000 in
theorem hL_law_630 (cl : List zC) (po : Option Value → bS → Nat → Nat → Prop) (rc rs rk : Nat) (K : zK) (lv : List (Nat × Value)) (st : List Value) (σ : bS) (c n : Nat) : z_hd tL_law cl po rc rs rk K 630 lv st σ c n = z_st cl po rc rs rk K (.iload 19) [] 630 lv st σ c n := (rfl)
set_option maxRecDepth 100000 in
theorem hL_law_632 (cl : List zC) (po : Option Value → bS → Nat → Nat → Prop) (rc rs rk : Nat) (K : zK) (lv : List (Nat × Value)) (st : List Value) (σ : bS) (c n : Nat) : z_hd tL_law cl po rc rs rk K 632 lv st σ c n = z_st cl po rc rs rk K (.isub) [] 632 lv st σ c n := (rfl)
set_option maxRecDepth 100000 in
theorem hL_law_633 (cl : List zC) (po : Option Value → bS → Nat → Nat → Prop) (rc rs rk : Nat) (K : zK) (lv : List (Nat × Value)) (st : List Value) (σ : bS) (c n : Nat) : z_hd tL_law cl po rc rs rk K 633 lv st σ c n = z_st cl po rc rs rk K (.if_icmp .eq 459) [1092] 633 lv st σ c n := (rfl)
set_option maxRecDepth 100000 in
theorem hL_law_636 (cl : List zC) (po : Option Value → bS → Nat → Nat → Prop) (rc rs rk : Nat) (K : zK) (lv : List (Nat × Value)) (st : List Value) (σ : bS) (c n : Nat) : z_hd tL_law cl po rc rs rk K 636 lv st σ c n = z_st cl po rc rs rk K (.iconst 0) [] 636 lv st σ c n := (rfl)
set_option maxRecDepth 100000 in
theorem hL_law_637 (cl : List zC) (po : Option Value → bS → Nat → Nat → Prop) (rc rs rk : Nat) (K : zK) (lv : List (Nat × Value)) (st : List Value) (σ : bS) (c n : Nat) : z_hd tL_law cl po rc rs rk K 637 lv st σ c n = z_st cl po rc rs rk K (.ireturn) [] 637 lv st σ c n := (rfl)
set_option maxRecDepth 100000 in
theorem hL_law_638 (cl : List zC) (po : Option Value → bS → Nat → Nat → Prop) (rc rs rk : Nat) (K : zK) (lv : List (Nat × Value)) (st : List Value) (σ : bS) (c n : Nat) : z_hd tL_law cl po rc rs rk K 638 lv st σ c n = z_st cl po rc rs rk K (.aload_n 1) [] 638 lv st σ c n := (rfl)
set_option maxRecDepth 100000 in
theorem hL_law_639 (cl : List zC) (po : Option Value → bS → Nat → Nat → Prop) (rc rs rk : Nat) (K : zK) (lv : List (Nat × Value)) (st : List Value) (σ : bS) (c n : Nat) : z_hd tL_law cl po rc rs rk K 639 lv st σ c n = z_st cl po rc rs rk K (.bipush 6) [] 639 lv st σ c n := (rfl)
set_option maxRecDepth 100000 in
theorem hL_law_641 (cl : List zC) (po : Option Value → bS → Nat → Nat → Prop) (rc rs rk : Nat) (K : zK) (lv : List (Nat × Value)) (st : List Value) (σ : bS) (c n : Nat) : z_hd tL_law cl po rc rs rk K 641 lv st σ c n = z_st cl po rc rs rk K (.invokevirtual 28) [] 641 lv st σ c n := (rfl)
set_option maxRecDepth 100000 in
theorem hL_law_644 (cl : List zC) (po : Option Value → bS → Nat → Nat → Prop) (rc rs rk : Nat) (K : zK) (lv : List (Nat × Value)) (st : List Value) (σ : bS) (c n : Nat) : z_hd tL_law cl po rc rs rk K 644 lv st σ c n = z_st cl po rc rs rk K (.istore 18) [] 644 lv st σ c n := (rfl)
set_option maxRecDepth 100000 in
theorem hL_law_646 (cl : List zC) (po : Option Value → bS → Nat → Nat → Prop) (rc rs rk : Nat) (K : zK) (lv : List (Nat × Value)) (st : List Value) (σ : bS) (c n : Nat) : z_hd tL_law cl po rc rs rk K 646 lv st σ c n = z_st cl po rc rs rk K (.aload_n 1) [] 646 lv st σ c n := (rfl)
set_option maxRecDepth 100000 in
theorem hL_law_647 (cl : List zC) (po : Option Value → bS → Nat → Nat → Prop) (rc rs rk : Nat) (K : zK) (lv : List (Nat × Value)) (st : List Value) (σ : bS) (c n : Nat) : z_hd tL_law cl po rc rs rk K 647 lv st σ c n = z_st cl po rc rs rk K (.bipush 8) [] 647 lv st σ c n := (rfl)
set_option maxRecDepth 100000 in
theorem hL_law_649 (cl : List zC) (po : Option Value → bS → Nat → Nat → Prop) (rc rs rk : Nat) (K : zK) (lv : List (Nat × Value)) (st : List Value) (σ : bS) (c n : Nat) : z_hd tL_law cl po rc rs rk K 649 lv st σ c n = z_st cl po rc rs rk K (.invokevirtual 28) [] 649 lv st σ c n := (rfl)
set_option maxRecDepth 100000 in
theorem hL_law_652 (cl : List zC) (po : Option Value → bS → Nat → Nat → Prop) (rc rs rk : Nat) (K : zK) (lv : List (Nat × Value)) (st : List Value) (σ : bS) (c n : Nat) : z_hd tL_law cl po rc rs rk K 652 lv st σ c n = z_st cl po rc rs rk K (.istore 19) [] 652 lv st σ c n := (rfl)
set_option maxRecDepth 100000 in
theorem hL_law_654 (cl : List zC) (po : Option Value → bS → Nat → Nat → Prop) (rc rs rk : Nat) (K : zK) (lv : List (Nat × Value)) (st : List Value) (σ : bS) (c n : Nat) : z_hd tL_law cl po rc rs rk K 654 lv st σ c n = z_st cl po rc rs rk K (.aload_n 1) [] 654 lv st σ c n := (rfl)
set_option maxRecDepth 100000 in
theorem hL_law_655 (cl : List zC) (po : Option Value → bS → Nat → Nat → Prop) (rc rs rk : Nat) (K : zK) (lv : List (Nat × Value)) (st : List Value) (σ : bS) (c n : Nat) : z_hd tL_law cl po rc rs rk K 655 lv st σ c n = z_st cl po rc rs rk K (.iconst 1) [] 655 lv st σ c n := (rfl)
set_option maxRecDepth 100000 in
theorem hL_law_656 (cl : List zC) (po : Option Value → bS → Nat → Nat → Prop) (rc rs rk : Nat) (K : zK) (lv : List (Nat × Value)) (st : List Value) (σ : bS) (c n : Nat) : z_hd tL_law cl po rc rs rk K 656 lv st σ c n = z_st cl po rc rs rk K (.iload 9) [] 656 lv st σ c n := (rfl)
set_option maxRecDepth 100000 in
theorem hL_law_658 (cl : List zC) (po : Option Value → bS → Nat → Nat → Prop) (rc rs rk : Nat) (K : zK) (lv : List (Nat × Value)) (st : List Value) (σ : bS) (c n : Nat) : z_hd tL_law cl po rc rs rk K 658 lv st σ c n = z_st cl po rc rs rk K (.iconst 5) [] 658 lv st σ c n := (rfl)
set_option maxRecDepth 100000 in
theorem hL_law_659 (cl : List zC) (po : Option Value → bS → Nat → Nat → Prop) (rc rs rk : Nat) (K : zK) (lv : List (Nat × Value)) (st : List Value) (σ : bS) (c n : Nat) : z_hd tL_law cl po rc rs rk K 659 lv st σ c n = z_st cl po rc rs rk K (.ishr) [] 659 lv st σ c n := (rfl)
set_option maxRecDepth 100000 in
theorem hL_law_660 (cl : List zC) (po : Option Value → bS → Nat → Nat → Prop) (rc rs rk : Nat) (K : zK) (lv : List (Nat × Value)) (st : List Value) (σ : bS) (c n : Nat) : z_hd tL_law cl po rc rs rk K 660 lv st σ c n = z_st cl po rc rs rk K (.bipush 12) [] 660 lv st σ c n := (rfl)
set_option maxRecDepth 100000 in
theorem hL_law_662 (cl : List zC) (po : Option Value → bS → Nat → Nat → Prop) (rc rs rk : Nat) (K : zK) (lv : List (Nat × Value)) (st : List Value) (σ : bS) (c n : Nat) : z_hd tL_law cl po rc rs rk K 662 lv st σ c n = z_st cl po rc rs rk K (.invokestatic 18) [] 662 lv st σ c n := (rfl)
set_option maxRecDepth 100000 in
theorem hL_law_665 (cl : List zC) (po : Option Value → bS → Nat → Nat → Prop) (rc rs rk : Nat) (K : zK) (lv : List (Nat × Value)) (st : List Value) (σ : bS) (c n : Nat) : z_hd tL_law cl po rc rs rk K 665 lv st σ c n = z_st cl po rc rs rk K (.iadd) [] 665 lv st σ c n := (rfl)
set_option maxRecDepth 100000 in
theorem hL_law_666 (cl : List zC) (po : Option Value → bS → Nat → Nat → Prop) (rc rs rk : Nat) (K : zK) (lv : List (Nat × Value)) (st : List Value) (σ : bS) (c n : Nat) : z_hd tL_law cl po rc rs rk K 666 lv st σ c n = z_st cl po rc rs rk K (.invokevirtual 67) [] 666 lv st σ c n := (rfl)
set_option maxRecDepth 100000 in
theorem hL_law_669 (cl : List zC) (po : Option Value → bS → Nat → Nat → Prop) (rc rs rk : Nat) (K : zK) (lv : List (Nat × Value)) (st : List Value) (σ : bS) (c n : Nat) : z_hd tL_law cl po rc rs rk K 669 lv st σ c n = z_st cl po rc rs rk K (.istore 20) [] 669 lv st σ c n := (rfl)
set_option maxRecDepth 100000 in
theorem hL_law_671 (cl : List zC) (po : Option Value → bS → Nat → Nat → Prop) (rc rs rk : Nat) (K : zK) (lv : List (Nat × Value)) (st : List Value) (σ : bS) (c n : Nat) : z_hd tL_law cl po rc rs rk K 671 lv st σ c n = z_st cl po rc rs rk K (.iload 16) [] 671 lv st σ c n := (rfl)
set_option maxRecDepth 100000 in
theorem hL_law_673 (cl : List zC) (po : Option Value → bS → Nat → Nat → Prop) (rc rs rk : Nat) (K : zK) (lv : List (Nat × Value)) (st : List Value) (σ : bS) (c n : Nat) : z_hd tL_law cl po rc rs rk K 673 lv st σ c n = z_st cl po rc rs rk K (.iload 18) [] 673 lv st σ c n := (rfl)
set_option maxRecDepth 100000 in
theorem hL_law_675 (cl : List zC) (po : Option Value → bS → Nat → Nat → Prop) (rc rs rk : Nat) (K : zK) (lv : List (Nat × Value)) (st : List Value) (σ : bS) (c n : Nat) : z_hd tL_law cl po rc rs rk K 675 lv st σ c n = z_st cl po rc rs rk K (.aload_n 1) [] 675 lv st σ c n := (rfl)
set_option maxRecDepth 100000 in
theorem hL_law_676 (cl : List zC) (po : Option Value → bS → Nat → Nat → Prop) (rc rs rk : Nat) (K : zK) (lv : List (Nat × Value)) (st : List Value) (σ : bS) (c n : Nat) : z_hd tL_law cl po rc rs rk K 676 lv st σ c n = z_st cl po rc rs rk K (.bipush 6) [] 676 lv st σ c n := (rfl)
set_option maxRecDepth 100000 in
theorem hL_law_678 (cl : List zC) (po : Option Value → bS → Nat → Nat → Prop) (rc rs rk : Nat) (K : zK) (lv : List (Nat × Value)) (st : List Value) (σ : bS) (c n : Nat) : z_hd tL_law cl po rc rs rk K 678 lv st σ c n = z_st cl po rc rs rk K (.invokevirtual 28) [] 678 lv st σ c n := (rfl)
set_option maxRecDepth 100000 in
theorem hL_law_681 (cl : List zC) (po : Option Value → bS → Nat → Nat → Prop) (rc rs rk : Nat) (K : zK) (lv : List (Nat × Value)) (st : List Value) (σ : bS) (c n : Nat) : z_hd tL_law cl po rc rs rk K 681 lv st σ c n = z_st cl po rc rs rk K (.isub) [] 681 lv st σ c n := (rfl)
set_option maxRecDepth 100000 in
theorem hL_law_682 (cl : List zC) (po : Option Value → bS → Nat → Nat → Prop) (rc rs rk : Nat) (K : zK) (lv : List (Nat × Value)) (st : List Value) (σ : bS) (c n : Nat) : z_hd tL_law cl po rc rs rk K 682 lv st σ c n = z_st cl po rc rs rk K (.iadd) [] 682 lv st σ c n := (rfl)
set_option maxRecDepth 100000 in
theorem hL_law_683 (cl : List zC) (po : Option Value → bS → Nat → Nat → Prop) (rc rs rk : Nat) (K : zK) (lv : List (Nat × Value)) (st : List Value) (σ : bS) (c n : Nat) : z_hd tL_law cl po rc rs rk K 683 lv st σ c n = z_st cl po rc rs rk K (.istore 16) [] 683 lv st σ c n := (rfl)
set_option maxRecDepth 100000 in
theorem hL_law_685 (cl : List zC) (po : Option Value → bS → Nat → Nat → Prop) (rc rs rk : Nat) (K : zK) (lv : List (Nat × Value)) (st : List Value) (σ : bS) (c n : Nat) : z_hd tL_law cl po rc rs rk K 685 lv st σ c n = z_st cl po rc rs rk K (.aload_n 1) [] 685 lv st σ c n := (rfl)
set_option maxRecDepth 100000 in
theorem hL_law_686 (cl : List zC) (po : Option Value → bS → Nat → Nat → Prop) (rc rs rk : Nat) (K : zK) (lv : List (Nat × Value)) (st : List Value) (σ : bS) (c n : Nat) : z_hd tL_law cl po rc rs rk K 686 lv st σ c n = z_st cl po rc rs rk K (.bipush 8) [] 686 lv st σ c n := (rfl)
set_option maxRecDepth 100000 in
theorem hL_law_688 (cl : List zC) (po : Option Value → bS → Nat → Nat → Prop) (rc rs rk : Nat) (K : zK) (lv : List (Nat × Value)) (st : List Value) (σ : bS) (c n : Nat) : z_hd tL_law cl po rc rs rk K 688 lv st σ c n = z_st cl po rc rs rk K (.invokevirtual 28) [] 688 lv st σ c n := (rfl)
set_option maxRecDepth 100000 in
theorem hL_law_691 (cl : List zC) (po : Option Value → bS → Nat → Nat → Prop) (rc rs rk : Nat) (K : zK) (lv : List (Nat × Value)) (st : List Value) (σ : bS) (c n : Nat) : z_hd tL_law cl po rc rs rk K 691 lv st σ c n = z_st cl po rc rs rk K (.iload 19) [] 691 lv st σ c n := (rfl)
set_option maxRecDepth 100000 in
theorem hL_law_693 (cl : List zC) (po : Option Value → bS → Nat → Nat → Prop) (rc rs rk : Nat) (K : zK) (lv : List (Nat × Value)) (st : List Value) (σ : bS) (c n : Nat) : z_hd tL_law cl po rc rs rk K 693 lv st σ c n = z_st cl po rc rs rk K (.iload 20) [] 693 lv st σ c n := (rfl)
set_option maxRecDepth 100000 in
theorem hL_law_695 (cl : List zC) (po : Option Value → bS → Nat → Nat → Prop) (rc rs rk : Nat) (K : zK) (lv : List (Nat × Value)) (st : List Value) (σ : bS) (c n : Nat) : z_hd tL_law cl po rc rs rk K 695 lv st σ c n = z_st cl po rc rs rk K (.iadd) [] 695 lv st σ c n := (rfl)
set_option maxRecDepth 100000 in
theorem hL_law_696 (cl : List zC) (po : Option Value → bS → Nat → Nat → Prop) (rc rs rk : Nat) (K : zK) (lv : List (Nat × Value)) (st : List Value) (σ : bS) (c n : Nat) : z_hd tL_law cl po rc rs rk K 696 lv st σ c n = z_st cl po rc rs rk K (.if_icmp .eq 396) [1092] 696 lv st σ c n := (rfl)
set_option maxRecDepth 100000 in
theorem hL_law_699 (cl : List zC) (po : Option Value → bS → Nat → Nat → Prop) (rc rs rk : Nat) (K : zK) (lv : List (Nat × Value)) (st : List Value) (σ : bS) (c n : Nat) : z_hd tL_law cl po rc rs rk K 699 lv st σ c n = z_st cl po rc rs rk K (.iconst 0) [] 699 lv st σ c n := (rfl)
set_option maxRecDepth 100000 in
theorem hL_law_700 (cl : List zC) (po : Option Value → bS → Nat → Nat → Prop) (rc rs rk : Nat) (K : zK) (lv : List (Nat × Value)) (st : List Value) (σ : bS) (c n : Nat) : z_hd tL_law cl po rc rs rk K 700 lv st σ c n = z_st cl po rc rs rk K (.ireturn) [] 700 lv st σ c n := (rfl)
set_option maxRecDepth 100000 in
theorem hL_law_701 (cl : List zC) (po : Option Value → bS → Nat → Nat → Prop) (rc rs rk : Nat) (K : zK) (lv : List (Nat × Value)) (st : List Value) (σ : bS) (c n : Nat) : z_hd tL_law cl po rc rs rk K 701 lv st σ c n = z_st cl po rc rs rk K (.aload_n 1) [] 701 lv st σ c n := (rfl)
set_option maxRecDepth 100000 in
theorem hL_law_702 (cl : List zC) (po : Option Value → bS → Nat → Nat → Prop) (rc rs rk : Nat) (K : zK) (lv : List (Nat × Value)) (st : List Value) (σ : bS) (c n : Nat) : z_hd tL_law cl po rc rs rk K 702 lv st σ c n = z_st cl po rc rs rk K (.bipush 8) [] 702 lv st σ c n := (rfl)
set_option maxRecDepth 100000 in
theorem hL_law_704 (cl : List zC) (po : Option Value → bS → Nat → Nat → Prop) (rc rs rk : Nat) (K : zK) (lv : List (Nat × Value)) (st : List Value) (σ : bS) (c n : Nat) : z_hd tL_law cl po rc rs rk K 704 lv st σ c n = z_st cl po rc rs rk K (.invokevirtual 28) [] 704 lv st σ c n := (rfl)
set_option maxRecDepth 100000 in
theorem hL_law_707 (cl : List zC) (po : Option Value → bS → Nat → Nat → Prop) (rc rs rk : Nat) (K : zK) (lv : List (Nat × Value)) (st : List Value) (σ : bS) (c n : Nat) : z_hd tL_law cl po rc rs rk K 707 lv st σ c n = z_st cl po rc rs rk K (.istore 18) [] 707 lv st σ c n := (rfl)
set_option maxRecDepth 100000 in
theorem hL_law_709 (cl : List zC) (po : Option Value → bS → Nat → Nat → Prop) (rc rs rk : Nat) (K : zK) (lv : List (Nat × Value)) (st : List Value) (σ : bS) (c n : Nat) : z_hd tL_law cl po rc rs rk K 709 lv st σ c n = z_st cl po rc rs rk K (.aload_n 1) [] 709 lv st σ c n := (rfl)
set_option maxRecDepth 100000 in
theorem hL_law_710 (cl : List zC) (po : Option Value → bS → Nat → Nat → Prop) (rc rs rk : Nat) (K : zK) (lv : List (Nat × Value)) (st : List Value) (σ : bS) (c n : Nat) : z_hd tL_law cl po rc rs rk K 710 lv st σ c n = z_st cl po rc rs rk K (.invokevirtual 70) [] 710 lv st σ c n := (rfl)
set_option maxRecDepth 100000 in
theorem hL_law_713 (cl : List zC) (po : Option Value → bS → Nat → Nat → Prop) (rc rs rk : Nat) (K : zK) (lv : List (Nat × Value)) (st : List Value) (σ : bS) (c n : Nat) : z_hd tL_law cl po rc rs rk K 713 lv st σ c n = z_st cl po rc rs rk K (.iload 18) [] 713 lv st σ c n := (rfl)
set_option maxRecDepth 100000 in
theorem hL_law_715 (cl : List zC) (po : Option Value → bS → Nat → Nat → Prop) (rc rs rk : Nat) (K : zK) (lv : List (Nat × Value)) (st : List Value) (σ : bS) (c n : Nat) : z_hd tL_law cl po rc rs rk K 715 lv st σ c n = z_st cl po rc rs rk K (.if_icmp .ne 12) [727] 715 lv st σ c n := (rfl)
set_option maxRecDepth 100000 in
theorem hL_law_718 (cl : List zC) (po : Option Value → bS → Nat → Nat → Prop) (rc rs rk : Nat) (K : zK) (lv : List (Nat × Value)) (st : List Value) (σ : bS) (c n : Nat) : z_hd tL_law cl po rc rs rk K 718 lv st σ c n = z_st cl po rc rs rk K (.aload_n 1) [] 718 lv st σ c n := (rfl)
set_option maxRecDepth 100000 in
theorem hL_law_719 (cl : List zC) (po : Option Value → bS → Nat → Nat → Prop) (rc rs rk : Nat) (K : zK) (lv : List (Nat × Value)) (st : List Value) (σ : bS) (c n : Nat) : z_hd tL_law cl po rc rs rk K 719 lv st σ c n = z_st cl po rc rs rk K (.bipush 8) [] 719 lv st σ c n := (rfl)
set_option maxRecDepth 100000 in
theorem hL_law_721 (cl : List zC) (po : Option Value → bS → Nat → Nat → Prop) (rc rs rk : Nat) (K : zK) (lv : List (Nat × Value)) (st : List Value) (σ : bS) (c n : Nat) : z_hd tL_law cl po rc rs rk K 721 lv st σ c n = z_st cl po rc rs rk K (.invokevirtual 28) [] 721 lv st σ c n := (rfl)
set_option maxRecDepth 100000 in
theorem hL_law_724 (cl : List zC) (po : Option Value → bS → Nat → Nat → Prop) (rc rs rk : Nat) (K : zK) (lv : List (Nat × Value)) (st : List Value) (σ : bS) (c n : Nat) : z_hd tL_law cl po rc rs rk K 724 lv st σ c n = z_st cl po rc rs rk K (.ifCond .eq 368) [1092] 724 lv st σ c n := (rfl)
set_option maxRecDepth 100000 in
theorem hL_law_727 (cl : List zC) (po : Option Value → bS → Nat → Nat → Prop) (rc rs rk : Nat) (K : zK) (lv : List (Nat × Value)) (st : List Value) (σ : bS) (c n : Nat) : z_hd tL_law cl po rc rs rk K 727 lv st σ c n = z_st cl po rc rs rk K (.iconst 0) [] 727 lv st σ c n := (rfl)
set_option maxRecDepth 100000 in
theorem hL_law_728 (cl : List zC) (po : Option Value → bS → Nat → Nat → Prop) (rc rs rk : Nat) (K : zK) (lv : List (Nat × Value)) (st : List Value) (σ : bS) (c n : Nat) : z_hd tL_law cl po rc rs rk K 728 lv st σ c n = z_st cl po rc rs rk K (.ireturn) [] 728 lv st σ c n := (rfl)
set_option maxRecDepth 100000 in
theorem hL_law_729 (cl : List zC) (po : Option Value → bS → Nat → Nat → Prop) (rc rs rk : Nat) (K : zK) (lv : List (Nat × Value)) (st : List Value) (σ : bS) (c n : Nat) : z_hd tL_law cl po rc rs rk K 729 lv st σ c n = z_st cl po rc rs rk K (.aload_n 1) [] 729 lv st σ c n := (rfl)
set_option maxRecDepth 100000 in
theorem hL_law_730 (cl : List zC) (po : Option Value → bS → Nat → Nat → Prop) (rc rs rk : Nat) (K : zK) (lv : List (Nat × Value)) (st : List Value) (σ : bS) (c n : Nat) : z_hd tL_law cl po rc rs rk K 730 lv st σ c n = z_st cl po rc rs rk K (.iload 9) [] 730 lv st σ c n := (rfl)
set_option maxRecDepth 100000 in
theorem hL_law_732 (cl : List zC) (po : Option Value → bS → Nat → Nat → Prop) (rc rs rk : Nat) (K : zK) (lv : List (Nat × Value)) (st : List Value) (σ : bS) (c n : Nat) : z_hd tL_law cl po rc rs rk K 732 lv st σ c n = z_st cl po rc rs rk K (.bipush 6) [] 732 lv st σ c n := (rfl)
set_option maxRecDepth 100000 in
theorem hL_law_734 (cl : List zC) (po : Option Value → bS → Nat → Nat → Prop) (rc rs rk : Nat) (K : zK) (lv : List (Nat × Value)) (st : List Value) (σ : bS) (c n : Nat) : z_hd tL_law cl po rc rs rk K 734 lv st σ c n = z_st cl po rc rs rk K (.ishr) [] 734 lv st σ c n := (rfl)
set_option maxRecDepth 100000 in
theorem hL_law_735 (cl : List zC) (po : Option Value → bS → Nat → Nat → Prop) (rc rs rk : Nat) (K : zK) (lv : List (Nat × Value)) (st : List Value) (σ : bS) (c n : Nat) : z_hd tL_law cl po rc rs rk K 735 lv st σ c n = z_st cl po rc rs rk K (.iconst 3) [] 735 lv st σ c n := (rfl)
set_option maxRecDepth 100000 in
theorem hL_law_736 (cl : List zC) (po : Option Value → bS → Nat → Nat → Prop) (rc rs rk : Nat) (K : zK) (lv : List (Nat × Value)) (st : List Value) (σ : bS) (c n : Nat) : z_hd tL_law cl po rc rs rk K 736 lv st σ c n = z_st cl po rc rs rk K (.invokestatic 18) [] 736 lv st σ c n := (rfl)
set_option maxRecDepth 100000 in
theorem hL_law_739 (cl : List zC) (po : Option Value → bS → Nat → Nat → Prop) (rc rs rk : Nat) (K : zK) (lv : List (Nat × Value)) (st : List Value) (σ : bS) (c n : Nat) : z_hd tL_law cl po rc rs rk K 739 lv st σ c n = z_st cl po rc rs rk K (.invokevirtual 74) [] 739 lv st σ c n := (rfl)
set_option maxRecDepth 100000 in
theorem hL_law_742 (cl : List zC) (po : Option Value → bS → Nat → Nat → Prop) (rc rs rk : Nat) (K : zK) (lv : List (Nat × Value)) (st : List Value) (σ : bS) (c n : Nat) : z_hd tL_law cl po rc rs rk K 742 lv st σ c n = z_st cl po rc rs rk K (.istore 18) [] 742 lv st σ c n := (rfl)
set_option maxRecDepth 100000 in
theorem hL_law_744 (cl : List zC) (po : Option Value → bS → Nat → Nat → Prop) (rc rs rk : Nat) (K : zK) (lv : List (Nat × Value)) (st : List Value) (σ : bS) (c n : Nat) : z_hd tL_law cl po rc rs rk K 744 lv st σ c n = z_st cl po rc rs rk K (.iload 18) [] 744 lv st σ c n := (rfl)
set_option maxRecDepth 100000 in
theorem hL_law_746 (cl : List zC) (po : Option Value → bS → Nat → Nat → Prop) (rc rs rk : Nat) (K : zK) (lv : List (Nat × Value)) (st : List Value) (σ : bS) (c n : Nat) : z_hd tL_law cl po rc rs rk K 746 lv st σ c n = z_st cl po rc rs rk K (.istore 16) [] 746 lv st σ c n := (rfl)
set_option maxRecDepth 100000 in
theorem hL_law_748 (cl : List zC) (po : Option Value → bS → Nat → Nat → Prop) (rc rs rk : Nat) (K : zK) (lv : List (Nat × Value)) (st : List Value) (σ : bS) (c n : Nat) : z_hd tL_law cl po rc rs rk K 748 lv st σ c n = z_st cl po rc rs rk K (.iload 17) [] 748 lv st σ c n := (rfl)
set_option maxRecDepth 100000 in
theorem hL_law_750 (cl : List zC) (po : Option Value → bS → Nat → Nat → Prop) (rc rs rk : Nat) (K : zK) (lv : List (Nat × Value)) (st : List Value) (σ : bS) (c n : Nat) : z_hd tL_law cl po rc rs rk K 750 lv st σ c n = z_st cl po rc rs rk K (.iload 18) [] 750 lv st σ c n := (rfl)
set_option maxRecDepth 100000 in
theorem hL_law_752 (cl : List zC) (po : Option Value → bS → Nat → Nat → Prop) (rc rs rk : Nat) (K : zK) (lv : List (Nat × Value)) (st : List Value) (σ : bS) (c n : Nat) : z_hd tL_law cl po rc rs rk K 752 lv st σ c n = z_st cl po rc rs rk K (.iload 13) [] 752 lv st σ c n := (rfl)
set_option maxRecDepth 100000 in
theorem hL_law_754 (cl : List zC) (po : Option Value → bS → Nat → Nat → Prop) (rc rs rk : Nat) (K : zK) (lv : List (Nat × Value)) (st : List Value) (σ : bS) (c n : Nat) : z_hd tL_law cl po rc rs rk K 754 lv st σ c n = z_st cl po rc rs rk K (.isub) [] 754 lv st σ c n := (rfl)
set_option maxRecDepth 100000 in
theorem hL_law_755 (cl : List zC) (po : Option Value → bS → Nat → Nat → Prop) (rc rs rk : Nat) (K : zK) (lv : List (Nat × Value)) (st : List Value) (σ : bS) (c n : Nat) : z_hd tL_law cl po rc rs rk K 755 lv st σ c n = z_st cl po rc rs rk K (.iadd) [] 755 lv st σ c n := (rfl)
set_option maxRecDepth 100000 in
theorem hL_law_756 (cl : List zC) (po : Option Value → bS → Nat → Nat → Prop) (rc rs rk : Nat) (K : zK) (lv : List (Nat × Value)) (st : List Value) (σ : bS) (c n : Nat) : z_hd tL_law cl po rc rs rk K 756 lv st σ c n = z_st cl po rc rs rk K (.istore 17) [] 756 lv st σ c n := (rfl)
set_option maxRecDepth 100000 in
theorem hL_law_758 (cl : List zC) (po : Option Value → bS → Nat → Nat → Prop) (rc rs rk : Nat) (K : zK) (lv : List (Nat × Value)) (st : List Value) (σ : bS) (c n : Nat) : z_hd tL_law cl po rc rs rk K 758 lv st σ c n = z_st cl po rc rs rk K (.iload 18) [] 758 lv st σ c n := (rfl)
set_option maxRecDepth 100000 in
theorem hL_law_760 (cl : List zC) (po : Option Value → bS → Nat → Nat → Prop) (rc rs rk : Nat) (K : zK) (lv : List (Nat × Value)) (st : List Value) (σ : bS) (c n : Nat) : z_hd tL_law cl po rc rs rk K 760 lv st σ c n = z_st cl po rc rs rk K (.iload 13) [] 760 lv st σ c n := (rfl)
set_option maxRecDepth 100000 in
theorem hL_law_762 (cl : List zC) (po : Option Value → bS → Nat → Nat → Prop) (rc rs rk : Nat) (K : zK) (lv : List (Nat × Value)) (st : List Value) (σ : bS) (c n : Nat) : z_hd tL_law cl po rc rs rk K 762 lv st σ c n = z_st cl po rc rs rk K (.if_icmp .gt 8) [770] 762 lv st σ c n := (rfl)
set_option maxRecDepth 100000 in
theorem hL_law_765 (cl : List zC) (po : Option Value → bS → Nat → Nat → Prop) (rc rs rk : Nat) (K : zK) (lv : List (Nat × Value)) (st : List Value) (σ : bS) (c n : Nat) : z_hd tL_law cl po rc rs rk K 765 lv st σ c n = z_st cl po rc rs rk K (.iload 18) [] 765 lv st σ c n := (rfl)
set_option maxRecDepth 100000 in
theorem hL_law_767 (cl : List zC) (po : Option Value → bS → Nat → Nat → Prop) (rc rs rk : Nat) (K : zK) (lv : List (Nat × Value)) (st : List Value) (σ : bS) (c n : Nat) : z_hd tL_law cl po rc rs rk K 767 lv st σ c n = z_st cl po rc rs rk K (.ifCond .ge 325) [1092] 767 lv st σ c n := (rfl)
set_option maxRecDepth 100000 in
theorem hL_law_770 (cl : List zC) (po : Option Value → bS → Nat → Nat → Prop) (rc rs rk : Nat) (K : zK) (lv : List (Nat × Value)) (st : List Value) (σ : bS) (c n : Nat) : z_hd tL_law cl po rc rs rk K 770 lv st σ c n = z_st cl po rc rs rk K (.iconst 0) [] 770 lv st σ c n := (rfl)
set_option maxRecDepth 100000 in
theorem hL_law_771 (cl : List zC) (po : Option Value → bS → Nat → Nat → Prop) (rc rs rk : Nat) (K : zK) (lv : List (Nat × Value)) (st : List Value) (σ : bS) (c n : Nat) : z_hd tL_law cl po rc rs rk K 771 lv st σ c n = z_st cl po rc rs rk K (.ireturn) [] 771 lv st σ c n := (rfl)
set_option maxRecDepth 100000 in
theorem hL_law_772 (cl : List zC) (po : Option Value → bS → Nat → Nat → Prop) (rc rs rk : Nat) (K : zK) (lv : List (Nat × Value)) (st : List Value) (σ : bS) (c n : Nat) : z_hd tL_law cl po rc rs rk K 772 lv st σ c n = z_st cl po rc rs rk K (.iload 5) [] 772 lv st σ c n := (rfl)
set_option maxRecDepth 100000 in
theorem hL_law_774 (cl : List zC) (po : Option Value → bS → Nat → Nat → Prop) (rc rs rk : Nat) (K : zK) (lv : List (Nat × Value)) (st : List Value) (σ : bS) (c n : Nat) : z_hd tL_law cl po rc rs rk K 774 lv st σ c n = z_st cl po rc rs rk K (.bipush 6) [] 774 lv st σ c n := (rfl)
set_option maxRecDepth 100000 in
theorem hL_law_776 (cl : List zC) (po : Option Value → bS → Nat → Nat → Prop) (rc rs rk : Nat) (K : zK) (lv : List (Nat × Value)) (st : List Value) (σ : bS) (c n : Nat) : z_hd tL_law cl po rc rs rk K 776 lv st σ c n = z_st cl po rc rs rk K (.if_icmp .ne 6) [782] 776 lv st σ c n := (rfl)
set_option maxRecDepth 100000 in
theorem hL_law_779 (cl : List zC) (po : Option Value → bS → Nat → Nat → Prop) (rc rs rk : Nat) (K : zK) (lv : List (Nat × Value)) (st : List Value) (σ : bS) (c n : Nat) : z_hd tL_law cl po rc rs rk K 779 lv st σ c n = z_st cl po rc rs rk K (.goto 313) [1092] 779 lv st σ c n := (rfl)
set_option maxRecDepth 100000 in
theorem hL_law_782 (cl : List zC) (po : Option Value → bS → Nat → Nat → Prop) (rc rs rk : Nat) (K : zK) (lv : List (Nat × Value)) (st : List Value) (σ : bS) (c n : Nat) : z_hd tL_law cl po rc rs rk K 782 lv st σ c n = z_st cl po rc rs rk K (.aload_n 1) [] 782 lv st σ c n := (rfl)
set_option maxRecDepth 100000 in
theorem hL_law_783 (cl : List zC) (po : Option Value → bS → Nat → Nat → Prop) (rc rs rk : Nat) (K : zK) (lv : List (Nat × Value)) (st : List Value) (σ : bS) (c n : Nat) : z_hd tL_law cl po rc rs rk K 783 lv st σ c n = z_st cl po rc rs rk K (.iload 9) [] 783 lv st σ c n := (rfl)
set_option maxRecDepth 100000 in
theorem hL_law_785 (cl : List zC) (po : Option Value → bS → Nat → Nat → Prop) (rc rs rk : Nat) (K : zK) (lv : List (Nat × Value)) (st : List Value) (σ : bS) (c n : Nat) : z_hd tL_law cl po rc rs rk K 785 lv st σ c n = z_st cl po rc rs rk K (.iconst 4) [] 785 lv st σ c n := (rfl)
set_option maxRecDepth 100000 in
theorem hL_law_786 (cl : List zC) (po : Option Value → bS → Nat → Nat → Prop) (rc rs rk : Nat) (K : zK) (lv : List (Nat × Value)) (st : List Value) (σ : bS) (c n : Nat) : z_hd tL_law cl po rc rs rk K 786 lv st σ c n = z_st cl po rc rs rk K (.ishr) [] 786 lv st σ c n := (rfl)
set_option maxRecDepth 100000 in
theorem hL_law_787 (cl : List zC) (po : Option Value → bS → Nat → Nat → Prop) (rc rs rk : Nat) (K : zK) (lv : List (Nat × Value)) (st : List Value) (σ : bS) (c n : Nat) : z_hd tL_law cl po rc rs rk K 787 lv st σ c n = z_st cl po rc rs rk K (.iconst 3) [] 787 lv st σ c n := (rfl)
set_option maxRecDepth 100000 in
theorem hL_law_788 (cl : List zC) (po : Option Value → bS → Nat → Nat → Prop) (rc rs rk : Nat) (K : zK) (lv : List (Nat × Value)) (st : List Value) (σ : bS) (c n : Nat) : z_hd tL_law cl po rc rs rk K 788 lv st σ c n = z_st cl po rc rs rk K (.invokestatic 18) [] 788 lv st σ c n := (rfl)
set_option maxRecDepth 100000 in
theorem hL_law_791 (cl : List zC) (po : Option Value → bS → Nat → Nat → Prop) (rc rs rk : Nat) (K : zK) (lv : List (Nat × Value)) (st : List Value) (σ : bS) (c n : Nat) : z_hd tL_law cl po rc rs rk K 791 lv st σ c n = z_st cl po rc rs rk K (.iconst 3) [] 791 lv st σ c n := (rfl)
set_option maxRecDepth 100000 in
theorem hL_law_792 (cl : List zC) (po : Option Value → bS → Nat → Nat → Prop) (rc rs rk : Nat) (K : zK) (lv : List (Nat × Value)) (st : List Value) (σ : bS) (c n : Nat) : z_hd tL_law cl po rc rs rk K 792 lv st σ c n = z_st cl po rc rs rk K (.iload 9) [] 792 lv st σ c n := (rfl)
set_option maxRecDepth 100000 in
theorem hL_law_794 (cl : List zC) (po : Option Value → bS → Nat → Nat → Prop) (rc rs rk : Nat) (K : zK) (lv : List (Nat × Value)) (st : List Value) (σ : bS) (c n : Nat) : z_hd tL_law cl po rc rs rk K 794 lv st σ c n = z_st cl po rc rs rk K (.bipush 6) [] 794 lv st σ c n := (rfl)
set_option maxRecDepth 100000 in
theorem hL_law_796 (cl : List zC) (po : Option Value → bS → Nat → Nat → Prop) (rc rs rk : Nat) (K : zK) (lv : List (Nat × Value)) (st : List Value) (σ : bS) (c n : Nat) : z_hd tL_law cl po rc rs rk K 796 lv st σ c n = z_st cl po rc rs rk K (.ishr) [] 796 lv st σ c n := (rfl)
set_option maxRecDepth 100000 in
theorem hL_law_797 (cl : List zC) (po : Option Value → bS → Nat → Nat → Prop) (rc rs rk : Nat) (K : zK) (lv : List (Nat × Value)) (st : List Value) (σ : bS) (c n : Nat) : z_hd tL_law cl po rc rs rk K 797 lv st σ c n = z_st cl po rc rs rk K (.iconst 4) [] 797 lv st σ c n := (rfl)
set_option maxRecDepth 100000 in
theorem hL_law_798 (cl : List zC) (po : Option Value → bS → Nat → Nat → Prop) (rc rs rk : Nat) (K : zK) (lv : List (Nat × Value)) (st : List Value) (σ : bS) (c n : Nat) : z_hd tL_law cl po rc rs rk K 798 lv st σ c n = z_st cl po rc rs rk K (.invokestatic 18) [] 798 lv st σ c n := (rfl)
set_option maxRecDepth 100000 in
theorem hL_law_801 (cl : List zC) (po : Option Value → bS → Nat → Nat → Prop) (rc rs rk : Nat) (K : zK) (lv : List (Nat × Value)) (st : List Value) (σ : bS) (c n : Nat) : z_hd tL_law cl po rc rs rk K 801 lv st σ c n = z_st cl po rc rs rk K (.iadd) [] 801 lv st σ c n := (rfl)
set_option maxRecDepth 100000 in
theorem hL_law_802 (cl : List zC) (po : Option Value → bS → Nat → Nat → Prop) (rc rs rk : Nat) (K : zK) (lv : List (Nat × Value)) (st : List Value) (σ : bS) (c n : Nat) : z_hd tL_law cl po rc rs rk K 802 lv st σ c n = z_st cl po rc rs rk K (.iconst 1) [] 802 lv st σ c n := (rfl)
set_option maxRecDepth 100000 in
theorem hL_law_803 (cl : List zC) (po : Option Value → bS → Nat → Nat → Prop) (rc rs rk : Nat) (K : zK) (lv : List (Nat × Value)) (st : List Value) (σ : bS) (c n : Nat) : z_hd tL_law cl po rc rs rk K 803 lv st σ c n = z_st cl po rc rs rk K (.iload 9) [] 803 lv st σ c n := (rfl)
set_option maxRecDepth 100000 in
theorem hL_law_805 (cl : List zC) (po : Option Value → bS → Nat → Nat → Prop) (rc rs rk : Nat) (K : zK) (lv : List (Nat × Value)) (st : List Value) (σ : bS) (c n : Nat) : z_hd tL_law cl po rc rs rk K 805 lv st σ c n = z_st cl po rc rs rk K (.iconst 3) [] 805 lv st σ c n := (rfl)
set_option maxRecDepth 100000 in
theorem hL_law_806 (cl : List zC) (po : Option Value → bS → Nat → Nat → Prop) (rc rs rk : Nat) (K : zK) (lv : List (Nat × Value)) (st : List Value) (σ : bS) (c n : Nat) : z_hd tL_law cl po rc rs rk K 806 lv st σ c n = z_st cl po rc rs rk K (.ishr) [] 806 lv st σ c n := (rfl)
set_option maxRecDepth 100000 in
theorem hL_law_807 (cl : List zC) (po : Option Value → bS → Nat → Nat → Prop) (rc rs rk : Nat) (K : zK) (lv : List (Nat × Value)) (st : List Value) (σ : bS) (c n : Nat) : z_hd tL_law cl po rc rs rk K 807 lv st σ c n = z_st cl po rc rs rk K (.bipush 9) [] 807 lv st σ c n := (rfl)
set_option maxRecDepth 100000 in
theorem hL_law_809 (cl : List zC) (po : Option Value → bS → Nat → Nat → Prop) (rc rs rk : Nat) (K : zK) (lv : List (Nat × Value)) (st : List Value) (σ : bS) (c n : Nat) : z_hd tL_law cl po rc rs rk K 809 lv st σ c n = z_st cl po rc rs rk K (.invokestatic 18) [] 809 lv st σ c n := (rfl)
set_option maxRecDepth 100000 in
theorem hL_law_812 (cl : List zC) (po : Option Value → bS → Nat → Nat → Prop) (rc rs rk : Nat) (K : zK) (lv : List (Nat × Value)) (st : List Value) (σ : bS) (c n : Nat) : z_hd tL_law cl po rc rs rk K 812 lv st σ c n = z_st cl po rc rs rk K (.iadd) [] 812 lv st σ c n := (rfl)
set_option maxRecDepth 100000 in
theorem hL_law_813 (cl : List zC) (po : Option Value → bS → Nat → Nat → Prop) (rc rs rk : Nat) (K : zK) (lv : List (Nat × Value)) (st : List Value) (σ : bS) (c n : Nat) : z_hd tL_law cl po rc rs rk K 813 lv st σ c n = z_st cl po rc rs rk K (.iload 9) [] 813 lv st σ c n := (rfl)
set_option maxRecDepth 100000 in
theorem hL_law_815 (cl : List zC) (po : Option Value → bS → Nat → Nat → Prop) (rc rs rk : Nat) (K : zK) (lv : List (Nat × Value)) (st : List Value) (σ : bS) (c n : Nat) : z_hd tL_law cl po rc rs rk K 815 lv st σ c n = z_st cl po rc rs rk K (.iconst 2) [] 815 lv st σ c n := (rfl)
set_option maxRecDepth 100000 in
theorem hL_law_816 (cl : List zC) (po : Option Value → bS → Nat → Nat → Prop) (rc rs rk : Nat) (K : zK) (lv : List (Nat × Value)) (st : List Value) (σ : bS) (c n : Nat) : z_hd tL_law cl po rc rs rk K 816 lv st σ c n = z_st cl po rc rs rk K (.ishr) [] 816 lv st σ c n := (rfl)
set_option maxRecDepth 100000 in
theorem hL_law_817 (cl : List zC) (po : Option Value → bS → Nat → Nat → Prop) (rc rs rk : Nat) (K : zK) (lv : List (Nat × Value)) (st : List Value) (σ : bS) (c n : Nat) : z_hd tL_law cl po rc rs rk K 817 lv st σ c n = z_st cl po rc rs rk K (.bipush 9) [] 817 lv st σ c n := (rfl)
set_option maxRecDepth 100000 in
theorem hL_law_819 (cl : List zC) (po : Option Value → bS → Nat → Nat → Prop) (rc rs rk : Nat) (K : zK) (lv : List (Nat × Value)) (st : List Value) (σ : bS) (c n : Nat) : z_hd tL_law cl po rc rs rk K 819 lv st σ c n = z_st cl po rc rs rk K (.invokestatic 18) [] 819 lv st σ c n := (rfl)
set_option maxRecDepth 100000 in
theorem hL_law_822 (cl : List zC) (po : Option Value → bS → Nat → Nat → Prop) (rc rs rk : Nat) (K : zK) (lv : List (Nat × Value)) (st : List Value) (σ : bS) (c n : Nat) : z_hd tL_law cl po rc rs rk K 822 lv st σ c n = z_st cl po rc rs rk K (.invokevirtual 77) [] 822 lv st σ c n := (rfl)
set_option maxRecDepth 100000 in
theorem hL_law_825 (cl : List zC) (po : Option Value → bS → Nat → Nat → Prop) (rc rs rk : Nat) (K : zK) (lv : List (Nat × Value)) (st : List Value) (σ : bS) (c n : Nat) : z_hd tL_law cl po rc rs rk K 825 lv st σ c n = z_st cl po rc rs rk K (.iload 5) [] 825 lv st σ c n := (rfl)
set_option maxRecDepth 100000 in
theorem hL_law_827 (cl : List zC) (po : Option Value → bS → Nat → Nat → Prop) (rc rs rk : Nat) (K : zK) (lv : List (Nat × Value)) (st : List Value) (σ : bS) (c n : Nat) : z_hd tL_law cl po rc rs rk K 827 lv st σ c n = z_st cl po rc rs rk K (.if_icmp .eq 5) [832] 827 lv st σ c n := (rfl)
set_option maxRecDepth 100000 in
theorem hL_law_830 (cl : List zC) (po : Option Value → bS → Nat → Nat → Prop) (rc rs rk : Nat) (K : zK) (lv : List (Nat × Value)) (st : List Value) (σ : bS) (c n : Nat) : z_hd tL_law cl po rc rs rk K 830 lv st σ c n = z_st cl po rc rs rk K (.iconst 0) [] 830 lv st σ c n := (rfl)
set_option maxRecDepth 100000 in
theorem hL_law_831 (cl : List zC) (po : Option Value → bS → Nat → Nat → Prop) (rc rs rk : Nat) (K : zK) (lv : List (Nat × Value)) (st : List Value) (σ : bS) (c n : Nat) : z_hd tL_law cl po rc rs rk K 831 lv st σ c n = z_st cl po rc rs rk K (.ireturn) [] 831 lv st σ c n := (rfl)
set_option maxRecDepth 100000 in
theorem hL_law_832 (cl : List zC) (po : Option Value → bS → Nat → Nat → Prop) (rc rs rk : Nat) (K : zK) (lv : List (Nat × Value)) (st : List Value) (σ : bS) (c n : Nat) : z_hd tL_law cl po rc rs rk K 832 lv st σ c n = z_st cl po rc rs rk K (.iinc 5 1) [] 832 lv st σ c n := (rfl)
set_option maxRecDepth 100000 in
theorem hL_law_835 (cl : List zC) (po : Option Value → bS → Nat → Nat → Prop) (rc rs rk : Nat) (K : zK) (lv : List (Nat × Value)) (st : List Value) (σ : bS) (c n : Nat) : z_hd tL_law cl po rc rs rk K 835 lv st σ c n = z_st cl po rc rs rk K (.goto 257) [1092] 835 lv st σ c n := (rfl)
set_option maxRecDepth 100000 in
theorem hL_law_838 (cl : List zC) (po : Option Value → bS → Nat → Nat → Prop) (rc rs rk : Nat) (K : zK) (lv : List (Nat × Value)) (st : List Value) (σ : bS) (c n : Nat) : z_hd tL_law cl po rc rs rk K 838 lv st σ c n = z_st cl po rc rs rk K (.iload 5) [] 838 lv st σ c n := (rfl)
set_option maxRecDepth 100000 in
theorem hL_law_840 (cl : List zC) (po : Option Value → bS → Nat → Nat → Prop) (rc rs rk : Nat) (K : zK) (lv : List (Nat × Value)) (st : List Value) (σ : bS) (c n : Nat) : z_hd tL_law cl po rc rs rk K 840 lv st σ c n = z_st cl po rc rs rk K (.ifCond .ne 6) [846] 840 lv st σ c n := (rfl)
set_option maxRecDepth 100000 in
theorem hL_law_843 (cl : List zC) (po : Option Value → bS → Nat → Nat → Prop) (rc rs rk : Nat) (K : zK) (lv : List (Nat × Value)) (st : List Value) (σ : bS) (c n : Nat) : z_hd tL_law cl po rc rs rk K 843 lv st σ c n = z_st cl po rc rs rk K (.goto 249) [1092] 843 lv st σ c n := (rfl)
set_option maxRecDepth 100000 in
theorem hL_law_846 (cl : List zC) (po : Option Value → bS → Nat → Nat → Prop) (rc rs rk : Nat) (K : zK) (lv : List (Nat × Value)) (st : List Value) (σ : bS) (c n : Nat) : z_hd tL_law cl po rc rs rk K 846 lv st σ c n = z_st cl po rc rs rk K (.aload_n 1) [] 846 lv st σ c n := (rfl)
set_option maxRecDepth 100000 in
theorem hL_law_847 (cl : List zC) (po : Option Value → bS → Nat → Nat → Prop) (rc rs rk : Nat) (K : zK) (lv : List (Nat × Value)) (st : List Value) (σ : bS) (c n : Nat) : z_hd tL_law cl po rc rs rk K 847 lv st σ c n = z_st cl po rc rs rk K (.iload 11) [] 847 lv st σ c n := (rfl)
set_option maxRecDepth 100000 in
theorem hL_law_849 (cl : List zC) (po : Option Value → bS → Nat → Nat → Prop) (rc rs rk : Nat) (K : zK) (lv : List (Nat × Value)) (st : List Value) (σ : bS) (c n : Nat) : z_hd tL_law cl po rc rs rk K 849 lv st σ c n = z_st cl po rc rs rk K (.iconst 2) [] 849 lv st σ c n := (rfl)
set_option maxRecDepth 100000 in
theorem hL_law_850 (cl : List zC) (po : Option Value → bS → Nat → Nat → Prop) (rc rs rk : Nat) (K : zK) (lv : List (Nat × Value)) (st : List Value) (σ : bS) (c n : Nat) : z_hd tL_law cl po rc rs rk K 850 lv st σ c n = z_st cl po rc rs rk K (.invokevirtual 43) [] 850 lv st σ c n := (rfl)
set_option maxRecDepth 100000 in
theorem hL_law_853 (cl : List zC) (po : Option Value → bS → Nat → Nat → Prop) (rc rs rk : Nat) (K : zK) (lv : List (Nat × Value)) (st : List Value) (σ : bS) (c n : Nat) : z_hd tL_law cl po rc rs rk K 853 lv st σ c n = z_st cl po rc rs rk K (.istore 18) [] 853 lv st σ c n := (rfl)
set_option maxRecDepth 100000 in
theorem hL_law_855 (cl : List zC) (po : Option Value → bS → Nat → Nat → Prop) (rc rs rk : Nat) (K : zK) (lv : List (Nat × Value)) (st : List Value) (σ : bS) (c n : Nat) : z_hd tL_law cl po rc rs rk K 855 lv st σ c n = z_st cl po rc rs rk K (.aload_n 1) [] 855 lv st σ c n := (rfl)
set_option maxRecDepth 100000 in
theorem hL_law_856 (cl : List zC) (po : Option Value → bS → Nat → Nat → Prop) (rc rs rk : Nat) (K : zK) (lv : List (Nat × Value)) (st : List Value) (σ : bS) (c n : Nat) : z_hd tL_law cl po rc rs rk K 856 lv st σ c n = z_st cl po rc rs rk K (.iload 11) [] 856 lv st σ c n := (rfl)
set_option maxRecDepth 100000 in
theorem hL_law_858 (cl : List zC) (po : Option Value → bS → Nat → Nat → Prop) (rc rs rk : Nat) (K : zK) (lv : List (Nat × Value)) (st : List Value) (σ : bS) (c n : Nat) : z_hd tL_law cl po rc rs rk K 858 lv st σ c n = z_st cl po rc rs rk K (.iload 9) [] 858 lv st σ c n := (rfl)
set_option maxRecDepth 100000 in
theorem hL_law_860 (cl : List zC) (po : Option Value → bS → Nat → Nat → Prop) (rc rs rk : Nat) (K : zK) (lv : List (Nat × Value)) (st : List Value) (σ : bS) (c n : Nat) : z_hd tL_law cl po rc rs rk K 860 lv st σ c n = z_st cl po rc rs rk K (.bipush 7) [] 860 lv st σ c n := (rfl)
set_option maxRecDepth 100000 in
theorem hL_law_862 (cl : List zC) (po : Option Value → bS → Nat → Nat → Prop) (rc rs rk : Nat) (K : zK) (lv : List (Nat × Value)) (st : List Value) (σ : bS) (c n : Nat) : z_hd tL_law cl po rc rs rk K 862 lv st σ c n = z_st cl po rc rs rk K (.ishr) [] 862 lv st σ c n := (rfl)
set_option maxRecDepth 100000 in
theorem hL_law_863 (cl : List zC) (po : Option Value → bS → Nat → Nat → Prop) (rc rs rk : Nat) (K : zK) (lv : List (Nat × Value)) (st : List Value) (σ : bS) (c n : Nat) : z_hd tL_law cl po rc rs rk K 863 lv st σ c n = z_st cl po rc rs rk K (.iload 5) [] 863 lv st σ c n := (rfl)
set_option maxRecDepth 100000 in
theorem hL_law_865 (cl : List zC) (po : Option Value → bS → Nat → Nat → Prop) (rc rs rk : Nat) (K : zK) (lv : List (Nat × Value)) (st : List Value) (σ : bS) (c n : Nat) : z_hd tL_law cl po rc rs rk K 865 lv st σ c n = z_st cl po rc rs rk K (.invokestatic 18) [] 865 lv st σ c n := (rfl)
set_option maxRecDepth 100000 in
theorem hL_law_868 (cl : List zC) (po : Option Value → bS → Nat → Nat → Prop) (rc rs rk : Nat) (K : zK) (lv : List (Nat × Value)) (st : List Value) (σ : bS) (c n : Nat) : z_hd tL_law cl po rc rs rk K 868 lv st σ c n = z_st cl po rc rs rk K (.iconst 1) [] 868 lv st σ c n := (rfl)
set_option maxRecDepth 100000 in
theorem hL_law_869 (cl : List zC) (po : Option Value → bS → Nat → Nat → Prop) (rc rs rk : Nat) (K : zK) (lv : List (Nat × Value)) (st : List Value) (σ : bS) (c n : Nat) : z_hd tL_law cl po rc rs rk K 869 lv st σ c n = z_st cl po rc rs rk K (.iload 9) [] 869 lv st σ c n := (rfl)
set_option maxRecDepth 100000 in
theorem hL_law_871 (cl : List zC) (po : Option Value → bS → Nat → Nat → Prop) (rc rs rk : Nat) (K : zK) (lv : List (Nat × Value)) (st : List Value) (σ : bS) (c n : Nat) : z_hd tL_law cl po rc rs rk K 871 lv st σ c n = z_st cl po rc rs rk K (.iconst 4) [] 871 lv st σ c n := (rfl)
set_option maxRecDepth 100000 in
theorem hL_law_872 (cl : List zC) (po : Option Value → bS → Nat → Nat → Prop) (rc rs rk : Nat) (K : zK) (lv : List (Nat × Value)) (st : List Value) (σ : bS) (c n : Nat) : z_hd tL_law cl po rc rs rk K 872 lv st σ c n = z_st cl po rc rs rk K (.ishr) [] 872 lv st σ c n := (rfl)
set_option maxRecDepth 100000 in
theorem hL_law_873 (cl : List zC) (po : Option Value → bS → Nat → Nat → Prop) (rc rs rk : Nat) (K : zK) (lv : List (Nat × Value)) (st : List Value) (σ : bS) (c n : Nat) : z_hd tL_law cl po rc rs rk K 873 lv st σ c n = z_st cl po rc rs rk K (.bipush 6) [] 873 lv st σ c n := (rfl)
set_option maxRecDepth 100000 in
theorem hL_law_875 (cl : List zC) (po : Option Value → bS → Nat → Nat → Prop) (rc rs rk : Nat) (K : zK) (lv : List (Nat × Value)) (st : List Value) (σ : bS) (c n : Nat) : z_hd tL_law cl po rc rs rk K 875 lv st σ c n = z_st cl po rc rs rk K (.invokestatic 18) [] 875 lv st σ c n := (rfl)
set_option maxRecDepth 100000 in
theorem hL_law_878 (cl : List zC) (po : Option Value → bS → Nat → Nat → Prop) (rc rs rk : Nat) (K : zK) (lv : List (Nat × Value)) (st : List Value) (σ : bS) (c n : Nat) : z_hd tL_law cl po rc rs rk K 878 lv st σ c n = z_st cl po rc rs rk K (.iadd) [] 878 lv st σ c n := (rfl)
set_option maxRecDepth 100000 in
theorem hL_law_879 (cl : List zC) (po : Option Value → bS → Nat → Nat → Prop) (rc rs rk : Nat) (K : zK) (lv : List (Nat × Value)) (st : List Value) (σ : bS) (c n : Nat) : z_hd tL_law cl po rc rs rk K 879 lv st σ c n = z_st cl po rc rs rk K (.invokevirtual 81) [] 879 lv st σ c n := (rfl)
set_option maxRecDepth 100000 in
theorem hL_law_882 (cl : List zC) (po : Option Value → bS → Nat → Nat → Prop) (rc rs rk : Nat) (K : zK) (lv : List (Nat × Value)) (st : List Value) (σ : bS) (c n : Nat) : z_hd tL_law cl po rc rs rk K 882 lv st σ c n = z_st cl po rc rs rk K (.istore 19) [] 882 lv st σ c n := (rfl)
set_option maxRecDepth 100000 in
theorem hL_law_884 (cl : List zC) (po : Option Value → bS → Nat → Nat → Prop) (rc rs rk : Nat) (K : zK) (lv : List (Nat × Value)) (st : List Value) (σ : bS) (c n : Nat) : z_hd tL_law cl po rc rs rk K 884 lv st σ c n = z_st cl po rc rs rk K (.aload_n 1) [] 884 lv st σ c n := (rfl)
set_option maxRecDepth 100000 in
theorem hL_law_885 (cl : List zC) (po : Option Value → bS → Nat → Nat → Prop) (rc rs rk : Nat) (K : zK) (lv : List (Nat × Value)) (st : List Value) (σ : bS) (c n : Nat) : z_hd tL_law cl po rc rs rk K 885 lv st σ c n = z_st cl po rc rs rk K (.iload 11) [] 885 lv st σ c n := (rfl)
set_option maxRecDepth 100000 in
theorem hL_law_887 (cl : List zC) (po : Option Value → bS → Nat → Nat → Prop) (rc rs rk : Nat) (K : zK) (lv : List (Nat × Value)) (st : List Value) (σ : bS) (c n : Nat) : z_hd tL_law cl po rc rs rk K 887 lv st σ c n = z_st cl po rc rs rk K (.iconst 2) [] 887 lv st σ c n := (rfl)
set_option maxRecDepth 100000 in
theorem hL_law_888 (cl : List zC) (po : Option Value → bS → Nat → Nat → Prop) (rc rs rk : Nat) (K : zK) (lv : List (Nat × Value)) (st : List Value) (σ : bS) (c n : Nat) : z_hd tL_law cl po rc rs rk K 888 lv st σ c n = z_st cl po rc rs rk K (.invokevirtual 43) [] 888 lv st σ c n := (rfl)
set_option maxRecDepth 100000 in
theorem hL_law_891 (cl : List zC) (po : Option Value → bS → Nat → Nat → Prop) (rc rs rk : Nat) (K : zK) (lv : List (Nat × Value)) (st : List Value) (σ : bS) (c n : Nat) : z_hd tL_law cl po rc rs rk K 891 lv st σ c n = z_st cl po rc rs rk K (.iload 18) [] 891 lv st σ c n := (rfl)
set_option maxRecDepth 100000 in
theorem hL_law_893 (cl : List zC) (po : Option Value → bS → Nat → Nat → Prop) (rc rs rk : Nat) (K : zK) (lv : List (Nat × Value)) (st : List Value) (σ : bS) (c n : Nat) : z_hd tL_law cl po rc rs rk K 893 lv st σ c n = z_st cl po rc rs rk K (.iconst 0) [] 893 lv st σ c n := (rfl)
set_option maxRecDepth 100000 in
theorem hL_law_894 (cl : List zC) (po : Option Value → bS → Nat → Nat → Prop) (rc rs rk : Nat) (K : zK) (lv : List (Nat × Value)) (st : List Value) (σ : bS) (c n : Nat) : z_hd tL_law cl po rc rs rk K 894 lv st σ c n = z_st cl po rc rs rk K (.iload 19) [] 894 lv st σ c n := (rfl)
set_option maxRecDepth 100000 in
theorem hL_law_896 (cl : List zC) (po : Option Value → bS → Nat → Nat → Prop) (rc rs rk : Nat) (K : zK) (lv : List (Nat × Value)) (st : List Value) (σ : bS) (c n : Nat) : z_hd tL_law cl po rc rs rk K 896 lv st σ c n = z_st cl po rc rs rk K (.invokestatic 85) [] 896 lv st σ c n := (rfl)
set_option maxRecDepth 100000 in
theorem hL_law_899 (cl : List zC) (po : Option Value → bS → Nat → Nat → Prop) (rc rs rk : Nat) (K : zK) (lv : List (Nat × Value)) (st : List Value) (σ : bS) (c n : Nat) : z_hd tL_law cl po rc rs rk K 899 lv st σ c n = z_st cl po rc rs rk K (.isub) [] 899 lv st σ c n := (rfl)
set_option maxRecDepth 100000 in
theorem hL_law_900 (cl : List zC) (po : Option Value → bS → Nat → Nat → Prop) (rc rs rk : Nat) (K : zK) (lv : List (Nat × Value)) (st : List Value) (σ : bS) (c n : Nat) : z_hd tL_law cl po rc rs rk K 900 lv st σ c n = z_st cl po rc rs rk K (.if_icmp .ne 14) [914] 900 lv st σ c n := (rfl)
set_option maxRecDepth 100000 in
theorem hL_law_903 (cl : List zC) (po : Option Value → bS → Nat → Nat → Prop) (rc rs rk : Nat) (K : zK) (lv : List (Nat × Value)) (st : List Value) (σ : bS) (c n : Nat) : z_hd tL_law cl po rc rs rk K 903 lv st σ c n = z_st cl po rc rs rk K (.iload 19) [] 903 lv st σ c n := (rfl)
set_option maxRecDepth 100000 in
theorem hL_law_905 (cl : List zC) (po : Option Value → bS → Nat → Nat → Prop) (rc rs rk : Nat) (K : zK) (lv : List (Nat × Value)) (st : List Value) (σ : bS) (c n : Nat) : z_hd tL_law cl po rc rs rk K 905 lv st σ c n = z_st cl po rc rs rk K (.ifCond .eq 9) [914] 905 lv st σ c n := (rfl)
set_option maxRecDepth 100000 in
theorem hL_law_908 (cl : List zC) (po : Option Value → bS → Nat → Nat → Prop) (rc rs rk : Nat) (K : zK) (lv : List (Nat × Value)) (st : List Value) (σ : bS) (c n : Nat) : z_hd tL_law cl po rc rs rk K 908 lv st σ c n = z_st cl po rc rs rk K (.iload 19) [] 908 lv st σ c n := (rfl)
set_option maxRecDepth 100000 in
theorem hL_law_910 (cl : List zC) (po : Option Value → bS → Nat → Nat → Prop) (rc rs rk : Nat) (K : zK) (lv : List (Nat × Value)) (st : List Value) (σ : bS) (c n : Nat) : z_hd tL_law cl po rc rs rk K 910 lv st σ c n = z_st cl po rc rs rk K (.iconst (-1)) [] 910 lv st σ c n := (rfl)
set_option maxRecDepth 100000 in
theorem hL_law_911 (cl : List zC) (po : Option Value → bS → Nat → Nat → Prop) (rc rs rk : Nat) (K : zK) (lv : List (Nat × Value)) (st : List Value) (σ : bS) (c n : Nat) : z_hd tL_law cl po rc rs rk K 911 lv st σ c n = z_st cl po rc rs rk K (.if_icmp .ne 181) [1092] 911 lv st σ c n := (rfl)
set_option maxRecDepth 100000 in
theorem hL_law_914 (cl : List zC) (po : Option Value → bS → Nat → Nat → Prop) (rc rs rk : Nat) (K : zK) (lv : List (Nat × Value)) (st : List Value) (σ : bS) (c n : Nat) : z_hd tL_law cl po rc rs rk K 914 lv st σ c n = z_st cl po rc rs rk K (.iconst 0) [] 914 lv st σ c n := (rfl)
set_option maxRecDepth 100000 in
theorem hL_law_915 (cl : List zC) (po : Option Value → bS → Nat → Nat → Prop) (rc rs rk : Nat) (K : zK) (lv : List (Nat × Value)) (st : List Value) (σ : bS) (c n : Nat) : z_hd tL_law cl po rc rs rk K 915 lv st σ c n = z_st cl po rc rs rk K (.ireturn) [] 915 lv st σ c n := (rfl)
set_option maxRecDepth 100000 in
theorem hL_law_916 (cl : List zC) (po : Option Value → bS → Nat → Nat → Prop) (rc rs rk : Nat) (K : zK) (lv : List (Nat × Value)) (st : List Value) (σ : bS) (c n : Nat) : z_hd tL_law cl po rc rs rk K 916 lv st σ c n = z_st cl po rc rs rk K (.iload 12) [] 916 lv st σ c n := (rfl)
set_option maxRecDepth 100000 in
theorem hL_law_918 (cl : List zC) (po : Option Value → bS → Nat → Nat → Prop) (rc rs rk : Nat) (K : zK) (lv : List (Nat × Value)) (st : List Value) (σ : bS) (c n : Nat) : z_hd tL_law cl po rc rs rk K 918 lv st σ c n = z_st cl po rc rs rk K (.ifCond .lt 174) [1092] 918 lv st σ c n := (rfl)
set_option maxRecDepth 100000 in
theorem hL_law_921 (cl : List zC) (po : Option Value → bS → Nat → Nat → Prop) (rc rs rk : Nat) (K : zK) (lv : List (Nat × Value)) (st : List Value) (σ : bS) (c n : Nat) : z_hd tL_law cl po rc rs rk K 921 lv st σ c n = z_st cl po rc rs rk K (.aload_n 1) [] 921 lv st σ c n := (rfl)
set_option maxRecDepth 100000 in
theorem hL_law_922 (cl : List zC) (po : Option Value → bS → Nat → Nat → Prop) (rc rs rk : Nat) (K : zK) (lv : List (Nat × Value)) (st : List Value) (σ : bS) (c n : Nat) : z_hd tL_law cl po rc rs rk K 922 lv st σ c n = z_st cl po rc rs rk K (.iload 12) [] 922 lv st σ c n := (rfl)
set_option maxRecDepth 100000 in
theorem hL_law_924 (cl : List zC) (po : Option Value → bS → Nat → Nat → Prop) (rc rs rk : Nat) (K : zK) (lv : List (Nat × Value)) (st : List Value) (σ : bS) (c n : Nat) : z_hd tL_law cl po rc rs rk K 924 lv st σ c n = z_st cl po rc rs rk K (.iconst 0) [] 924 lv st σ c n := (rfl)
set_option maxRecDepth 100000 in
theorem hL_law_925 (cl : List zC) (po : Option Value → bS → Nat → Nat → Prop) (rc rs rk : Nat) (K : zK) (lv : List (Nat × Value)) (st : List Value) (σ : bS) (c n : Nat) : z_hd tL_law cl po rc rs rk K 925 lv st σ c n = z_st cl po rc rs rk K (.invokevirtual 40) [] 925 lv st σ c n := (rfl)
set_option maxRecDepth 100000 in
theorem hL_law_928 (cl : List zC) (po : Option Value → bS → Nat → Nat → Prop) (rc rs rk : Nat) (K : zK) (lv : List (Nat × Value)) (st : List Value) (σ : bS) (c n : Nat) : z_hd tL_law cl po rc rs rk K 928 lv st σ c n = z_st cl po rc rs rk K (.iconst 4) [] 928 lv st σ c n := (rfl)
set_option maxRecDepth 100000 in
theorem hL_law_929 (cl : List zC) (po : Option Value → bS → Nat → Nat → Prop) (rc rs rk : Nat) (K : zK) (lv : List (Nat × Value)) (st : List Value) (σ : bS) (c n : Nat) : z_hd tL_law cl po rc rs rk K 929 lv st σ c n = z_st cl po rc rs rk K (.if_icmp .eq 6) [935] 929 lv st σ c n := (rfl)
set_option maxRecDepth 100000 in
theorem hL_law_932 (cl : List zC) (po : Option Value → bS → Nat → Nat → Prop) (rc rs rk : Nat) (K : zK) (lv : List (Nat × Value)) (st : List Value) (σ : bS) (c n : Nat) : z_hd tL_law cl po rc rs rk K 932 lv st σ c n = z_st cl po rc rs rk K (.goto 160) [1092] 932 lv st σ c n := (rfl)
set_option maxRecDepth 100000 in
theorem hL_law_935 (cl : List zC) (po : Option Value → bS → Nat → Nat → Prop) (rc rs rk : Nat) (K : zK) (lv : List (Nat × Value)) (st : List Value) (σ : bS) (c n : Nat) : z_hd tL_law cl po rc rs rk K 935 lv st σ c n = z_st cl po rc rs rk K (.aload_n 1) [] 935 lv st σ c n := (rfl)
set_option maxRecDepth 100000 in
theorem hL_law_936 (cl : List zC) (po : Option Value → bS → Nat → Nat → Prop) (rc rs rk : Nat) (K : zK) (lv : List (Nat × Value)) (st : List Value) (σ : bS) (c n : Nat) : z_hd tL_law cl po rc rs rk K 936 lv st σ c n = z_st cl po rc rs rk K (.iload 12) [] 936 lv st σ c n := (rfl)
set_option maxRecDepth 100000 in
theorem hL_law_938 (cl : List zC) (po : Option Value → bS → Nat → Nat → Prop) (rc rs rk : Nat) (K : zK) (lv : List (Nat × Value)) (st : List Value) (σ : bS) (c n : Nat) : z_hd tL_law cl po rc rs rk K 938 lv st σ c n = z_st cl po rc rs rk K (.iload 11) [] 938 lv st σ c n := (rfl)
set_option maxRecDepth 100000 in
theorem hL_law_940 (cl : List zC) (po : Option Value → bS → Nat → Nat → Prop) (rc rs rk : Nat) (K : zK) (lv : List (Nat × Value)) (st : List Value) (σ : bS) (c n : Nat) : z_hd tL_law cl po rc rs rk K 940 lv st σ c n = z_st cl po rc rs rk K (.invokevirtual 90) [] 940 lv st σ c n := (rfl)
set_option maxRecDepth 100000 in
theorem hL_law_943 (cl : List zC) (po : Option Value → bS → Nat → Nat → Prop) (rc rs rk : Nat) (K : zK) (lv : List (Nat × Value)) (st : List Value) (σ : bS) (c n : Nat) : z_hd tL_law cl po rc rs rk K 943 lv st σ c n = z_st cl po rc rs rk K (.istore 18) [] 943 lv st σ c n := (rfl)
set_option maxRecDepth 100000 in
theorem hL_law_945 (cl : List zC) (po : Option Value → bS → Nat → Nat → Prop) (rc rs rk : Nat) (K : zK) (lv : List (Nat × Value)) (st : List Value) (σ : bS) (c n : Nat) : z_hd tL_law cl po rc rs rk K 945 lv st σ c n = z_st cl po rc rs rk K (.iload 12) [] 945 lv st σ c n := (rfl)
set_option maxRecDepth 100000 in
theorem hL_law_947 (cl : List zC) (po : Option Value → bS → Nat → Nat → Prop) (rc rs rk : Nat) (K : zK) (lv : List (Nat × Value)) (st : List Value) (σ : bS) (c n : Nat) : z_hd tL_law cl po rc rs rk K 947 lv st σ c n = z_st cl po rc rs rk K (.istore 15) [] 947 lv st σ c n := (rfl)
set_option maxRecDepth 100000 in
theorem hL_law_949 (cl : List zC) (po : Option Value → bS → Nat → Nat → Prop) (rc rs rk : Nat) (K : zK) (lv : List (Nat × Value)) (st : List Value) (σ : bS) (c n : Nat) : z_hd tL_law cl po rc rs rk K 949 lv st σ c n = z_st cl po rc rs rk K (.iinc 17 (-4)) [] 949 lv st σ c n := (rfl)
set_option maxRecDepth 100000 in
theorem hL_law_952 (cl : List zC) (po : Option Value → bS → Nat → Nat → Prop) (rc rs rk : Nat) (K : zK) (lv : List (Nat × Value)) (st : List Value) (σ : bS) (c n : Nat) : z_hd tL_law cl po rc rs rk K 952 lv st σ c n = z_st cl po rc rs rk K (.iload 18) [] 952 lv st σ c n := (rfl)
set_option maxRecDepth 100000 in
theorem hL_law_954 (cl : List zC) (po : Option Value → bS → Nat → Nat → Prop) (rc rs rk : Nat) (K : zK) (lv : List (Nat × Value)) (st : List Value) (σ : bS) (c n : Nat) : z_hd tL_law cl po rc rs rk K 954 lv st σ c n = z_st cl po rc rs rk K (.aload_n 1) [] 954 lv st σ c n := (rfl)
set_option maxRecDepth 100000 in
theorem hL_law_955 (cl : List zC) (po : Option Value → bS → Nat → Nat → Prop) (rc rs rk : Nat) (K : zK) (lv : List (Nat × Value)) (st : List Value) (σ : bS) (c n : Nat) : z_hd tL_law cl po rc rs rk K 955 lv st σ c n = z_st cl po rc rs rk K (.iload 12) [] 955 lv st σ c n := (rfl)
set_option maxRecDepth 100000 in
theorem hL_law_957 (cl : List zC) (po : Option Value → bS → Nat → Nat → Prop) (rc rs rk : Nat) (K : zK) (lv : List (Nat × Value)) (st : List Value) (σ : bS) (c n : Nat) : z_hd tL_law cl po rc rs rk K 957 lv st σ c n = z_st cl po rc rs rk K (.bipush 7) [] 957 lv st σ c n := (rfl)
set_option maxRecDepth 100000 in
theorem hL_law_959 (cl : List zC) (po : Option Value → bS → Nat → Nat → Prop) (rc rs rk : Nat) (K : zK) (lv : List (Nat × Value)) (st : List Value) (σ : bS) (c n : Nat) : z_hd tL_law cl po rc rs rk K 959 lv st σ c n = z_st cl po rc rs rk K (.invokevirtual 40) [] 959 lv st σ c n := (rfl)
set_option maxRecDepth 100000 in
theorem hL_law_962 (cl : List zC) (po : Option Value → bS → Nat → Nat → Prop) (rc rs rk : Nat) (K : zK) (lv : List (Nat × Value)) (st : List Value) (σ : bS) (c n : Nat) : z_hd tL_law cl po rc rs rk K 962 lv st σ c n = z_st cl po rc rs rk K (.if_icmp .ne 14) [976] 962 lv st σ c n := (rfl)
set_option maxRecDepth 100000 in
theorem hL_law_965 (cl : List zC) (po : Option Value → bS → Nat → Nat → Prop) (rc rs rk : Nat) (K : zK) (lv : List (Nat × Value)) (st : List Value) (σ : bS) (c n : Nat) : z_hd tL_law cl po rc rs rk K 965 lv st σ c n = z_st cl po rc rs rk K (.aload_n 1) [] 965 lv st σ c n := (rfl)
set_option maxRecDepth 100000 in
theorem hL_law_966 (cl : List zC) (po : Option Value → bS → Nat → Nat → Prop) (rc rs rk : Nat) (K : zK) (lv : List (Nat × Value)) (st : List Value) (σ : bS) (c n : Nat) : z_hd tL_law cl po rc rs rk K 966 lv st σ c n = z_st cl po rc rs rk K (.iload 12) [] 966 lv st σ c n := (rfl)
set_option maxRecDepth 100000 in
theorem hL_law_968 (cl : List zC) (po : Option Value → bS → Nat → Nat → Prop) (rc rs rk : Nat) (K : zK) (lv : List (Nat × Value)) (st : List Value) (σ : bS) (c n : Nat) : z_hd tL_law cl po rc rs rk K 968 lv st σ c n = z_st cl po rc rs rk K (.bipush 6) [] 968 lv st σ c n := (rfl)
set_option maxRecDepth 100000 in
theorem hL_law_970 (cl : List zC) (po : Option Value → bS → Nat → Nat → Prop) (rc rs rk : Nat) (K : zK) (lv : List (Nat × Value)) (st : List Value) (σ : bS) (c n : Nat) : z_hd tL_law cl po rc rs rk K 970 lv st σ c n = z_st cl po rc rs rk K (.invokevirtual 40) [] 970 lv st σ c n := (rfl)
set_option maxRecDepth 100000 in
theorem hL_law_973 (cl : List zC) (po : Option Value → bS → Nat → Nat → Prop) (rc rs rk : Nat) (K : zK) (lv : List (Nat × Value)) (st : List Value) (σ : bS) (c n : Nat) : z_hd tL_law cl po rc rs rk K 973 lv st σ c n = z_st cl po rc rs rk K (.ifCond .eq 119) [1092] 973 lv st σ c n := (rfl)
set_option maxRecDepth 100000 in
theorem hL_law_976 (cl : List zC) (po : Option Value → bS → Nat → Nat → Prop) (rc rs rk : Nat) (K : zK) (lv : List (Nat × Value)) (st : List Value) (σ : bS) (c n : Nat) : z_hd tL_law cl po rc rs rk K 976 lv st σ c n = z_st cl po rc rs rk K (.iconst 0) [] 976 lv st σ c n := (rfl)
set_option maxRecDepth 100000 in
theorem hL_law_977 (cl : List zC) (po : Option Value → bS → Nat → Nat → Prop) (rc rs rk : Nat) (K : zK) (lv : List (Nat × Value)) (st : List Value) (σ : bS) (c n : Nat) : z_hd tL_law cl po rc rs rk K 977 lv st σ c n = z_st cl po rc rs rk K (.ireturn) [] 977 lv st σ c n := (rfl)
set_option maxRecDepth 100000 in
theorem hL_law_978 (cl : List zC) (po : Option Value → bS → Nat → Nat → Prop) (rc rs rk : Nat) (K : zK) (lv : List (Nat × Value)) (st : List Value) (σ : bS) (c n : Nat) : z_hd tL_law cl po rc rs rk K 978 lv st σ c n = z_st cl po rc rs rk K (.iload 9) [] 978 lv st σ c n := (rfl)
set_option maxRecDepth 100000 in
theorem hL_law_980 (cl : List zC) (po : Option Value → bS → Nat → Nat → Prop) (rc rs rk : Nat) (K : zK) (lv : List (Nat × Value)) (st : List Value) (σ : bS) (c n : Nat) : z_hd tL_law cl po rc rs rk K 980 lv st σ c n = z_st cl po rc rs rk K (.bipush 6) [] 980 lv st σ c n := (rfl)
set_option maxRecDepth 100000 in
theorem hL_law_982 (cl : List zC) (po : Option Value → bS → Nat → Nat → Prop) (rc rs rk : Nat) (K : zK) (lv : List (Nat × Value)) (st : List Value) (σ : bS) (c n : Nat) : z_hd tL_law cl po rc rs rk K 982 lv st σ c n = z_st cl po rc rs rk K (.ishr) [] 982 lv st σ c n := (rfl)
set_option maxRecDepth 100000 in
theorem hL_law_983 (cl : List zC) (po : Option Value → bS → Nat → Nat → Prop) (rc rs rk : Nat) (K : zK) (lv : List (Nat × Value)) (st : List Value) (σ : bS) (c n : Nat) : z_hd tL_law cl po rc rs rk K 983 lv st σ c n = z_st cl po rc rs rk K (.bipush 21) [] 983 lv st σ c n := (rfl)
set_option maxRecDepth 100000 in
theorem hL_law_985 (cl : List zC) (po : Option Value → bS → Nat → Nat → Prop) (rc rs rk : Nat) (K : zK) (lv : List (Nat × Value)) (st : List Value) (σ : bS) (c n : Nat) : z_hd tL_law cl po rc rs rk K 985 lv st σ c n = z_st cl po rc rs rk K (.invokestatic 18) [] 985 lv st σ c n := (rfl)
set_option maxRecDepth 100000 in
theorem hL_law_988 (cl : List zC) (po : Option Value → bS → Nat → Nat → Prop) (rc rs rk : Nat) (K : zK) (lv : List (Nat × Value)) (st : List Value) (σ : bS) (c n : Nat) : z_hd tL_law cl po rc rs rk K 988 lv st σ c n = z_st cl po rc rs rk K (.istore 4) [] 988 lv st σ c n := (rfl)
set_option maxRecDepth 100000 in
theorem hL_law_990 (cl : List zC) (po : Option Value → bS → Nat → Nat → Prop) (rc rs rk : Nat) (K : zK) (lv : List (Nat × Value)) (st : List Value) (σ : bS) (c n : Nat) : z_hd tL_law cl po rc rs rk K 990 lv st σ c n = z_st cl po rc rs rk K (.aload_n 1) [] 990 lv st σ c n := (rfl)
set_option maxRecDepth 100000 in
theorem hL_law_991 (cl : List zC) (po : Option Value → bS → Nat → Nat → Prop) (rc rs rk : Nat) (K : zK) (lv : List (Nat × Value)) (st : List Value) (σ : bS) (c n : Nat) : z_hd tL_law cl po rc rs rk K 991 lv st σ c n = z_st cl po rc rs rk K (.iload 4) [] 991 lv st σ c n := (rfl)
set_option maxRecDepth 100000 in
theorem hL_law_993 (cl : List zC) (po : Option Value → bS → Nat → Nat → Prop) (rc rs rk : Nat) (K : zK) (lv : List (Nat × Value)) (st : List Value) (σ : bS) (c n : Nat) : z_hd tL_law cl po rc rs rk K 993 lv st σ c n = z_st cl po rc rs rk K (.invokevirtual 93) [] 993 lv st σ c n := (rfl)
set_option maxRecDepth 100000 in
theorem hL_law_996 (cl : List zC) (po : Option Value → bS → Nat → Nat → Prop) (rc rs rk : Nat) (K : zK) (lv : List (Nat × Value)) (st : List Value) (σ : bS) (c n : Nat) : z_hd tL_law cl po rc rs rk K 996 lv st σ c n = z_st cl po rc rs rk K (.pop) [] 996 lv st σ c n := (rfl)
set_option maxRecDepth 100000 in
theorem hL_law_997 (cl : List zC) (po : Option Value → bS → Nat → Nat → Prop) (rc rs rk : Nat) (K : zK) (lv : List (Nat × Value)) (st : List Value) (σ : bS) (c n : Nat) : z_hd tL_law cl po rc rs rk K 997 lv st σ c n = z_st cl po rc rs rk K (.goto 95) [1092] 997 lv st σ c n := (rfl)
set_option maxRecDepth 100000 in
theorem hL_law_1000 (cl : List zC) (po : Option Value → bS → Nat → Nat → Prop) (rc rs rk : Nat) (K : zK) (lv : List (Nat × Value)) (st : List Value) (σ : bS) (c n : Nat) : z_hd tL_law cl po rc rs rk K 1000 lv st σ c n = z_st cl po rc rs rk K (.iload 9) [] 1000 lv st σ c n := (rfl)
set_option maxRecDepth 100000 in
theorem hL_law_1002 (cl : List zC) (po : Option Value → bS → Nat → Nat → Prop) (rc rs rk : Nat) (K : zK) (lv : List (Nat × Value)) (st : List Value) (σ : bS) (c n : Nat) : z_hd tL_law cl po rc rs rk K 1002 lv st σ c n = z_st cl po rc rs rk K (.iconst 4) [] 1002 lv st σ c n := (rfl)
set_option maxRecDepth 100000 in
theorem hL_law_1003 (cl : List zC) (po : Option Value → bS → Nat → Nat → Prop) (rc rs rk : Nat) (K : zK) (lv : List (Nat × Value)) (st : List Value) (σ : bS) (c n : Nat) : z_hd tL_law cl po rc rs rk K 1003 lv st σ c n = z_st cl po rc rs rk K (.ishr) [] 1003 lv st σ c n := (rfl)
set_option maxRecDepth 100000 in
theorem hL_law_1004 (cl : List zC) (po : Option Value → bS → Nat → Nat → Prop) (rc rs rk : Nat) (K : zK) (lv : List (Nat × Value)) (st : List Value) (σ : bS) (c n : Nat) : z_hd tL_law cl po rc rs rk K 1004 lv st σ c n = z_st cl po rc rs rk K (.bipush 41) [] 1004 lv st σ c n := (rfl)
set_option maxRecDepth 100000 in
theorem hL_law_1006 (cl : List zC) (po : Option Value → bS → Nat → Nat → Prop) (rc rs rk : Nat) (K : zK) (lv : List (Nat × Value)) (st : List Value) (σ : bS) (c n : Nat) : z_hd tL_law cl po rc rs rk K 1006 lv st σ c n = z_st cl po rc rs rk K (.invokestatic 18) [] 1006 lv st σ c n := (rfl)
set_option maxRecDepth 100000 in
theorem hL_law_1009 (cl : List zC) (po : Option Value → bS → Nat → Nat → Prop) (rc rs rk : Nat) (K : zK) (lv : List (Nat × Value)) (st : List Value) (σ : bS) (c n : Nat) : z_hd tL_law cl po rc rs rk K 1009 lv st σ c n = z_st cl po rc rs rk K (.istore 18) [] 1009 lv st σ c n := (rfl)
set_option maxRecDepth 100000 in
theorem hL_law_1011 (cl : List zC) (po : Option Value → bS → Nat → Nat → Prop) (rc rs rk : Nat) (K : zK) (lv : List (Nat × Value)) (st : List Value) (σ : bS) (c n : Nat) : z_hd tL_law cl po rc rs rk K 1011 lv st σ c n = z_st cl po rc rs rk K (.iconst 1) [] 1011 lv st σ c n := (rfl)
set_option maxRecDepth 100000 in
theorem hL_law_1012 (cl : List zC) (po : Option Value → bS → Nat → Nat → Prop) (rc rs rk : Nat) (K : zK) (lv : List (Nat × Value)) (st : List Value) (σ : bS) (c n : Nat) : z_hd tL_law cl po rc rs rk K 1012 lv st σ c n = z_st cl po rc rs rk K (.iload 9) [] 1012 lv st σ c n := (rfl)
set_option maxRecDepth 100000 in
theorem hL_law_1014 (cl : List zC) (po : Option Value → bS → Nat → Nat → Prop) (rc rs rk : Nat) (K : zK) (lv : List (Nat × Value)) (st : List Value) (σ : bS) (c n : Nat) : z_hd tL_law cl po rc rs rk K 1014 lv st σ c n = z_st cl po rc rs rk K (.bipush 6) [] 1014 lv st σ c n := (rfl)
set_option maxRecDepth 100000 in
theorem hL_law_1016 (cl : List zC) (po : Option Value → bS → Nat → Nat → Prop) (rc rs rk : Nat) (K : zK) (lv : List (Nat × Value)) (st : List Value) (σ : bS) (c n : Nat) : z_hd tL_law cl po rc rs rk K 1016 lv st σ c n = z_st cl po rc rs rk K (.ishr) [] 1016 lv st σ c n := (rfl)
set_option maxRecDepth 100000 in
theorem hL_law_1017 (cl : List zC) (po : Option Value → bS → Nat → Nat → Prop) (rc rs rk : Nat) (K : zK) (lv : List (Nat × Value)) (st : List Value) (σ : bS) (c n : Nat) : z_hd tL_law cl po rc rs rk K 1017 lv st σ c n = z_st cl po rc rs rk K (.iconst 4) [] 1017 lv st σ c n := (rfl)
set_option maxRecDepth 100000 in
theorem hL_law_1018 (cl : List zC) (po : Option Value → bS → Nat → Nat → Prop) (rc rs rk : Nat) (K : zK) (lv : List (Nat × Value)) (st : List Value) (σ : bS) (c n : Nat) : z_hd tL_law cl po rc rs rk K 1018 lv st σ c n = z_st cl po rc rs rk K (.invokestatic 18) [] 1018 lv st σ c n := (rfl)
set_option maxRecDepth 100000 in
theorem hL_law_1021 (cl : List zC) (po : Option Value → bS → Nat → Nat → Prop) (rc rs rk : Nat) (K : zK) (lv : List (Nat × Value)) (st : List Value) (σ : bS) (c n : Nat) : z_hd tL_law cl po rc rs rk K 1021 lv st σ c n = z_st cl po rc rs rk K (.iadd) [] 1021 lv st σ c n := (rfl)
set_option maxRecDepth 100000 in
theorem hL_law_1022 (cl : List zC) (po : Option Value → bS → Nat → Nat → Prop) (rc rs rk : Nat) (K : zK) (lv : List (Nat × Value)) (st : List Value) (σ : bS) (c n : Nat) : z_hd tL_law cl po rc rs rk K 1022 lv st σ c n = z_st cl po rc rs rk K (.istore 19) [] 1022 lv st σ c n := (rfl)
set_option maxRecDepth 100000 in
theorem hL_law_1024 (cl : List zC) (po : Option Value → bS → Nat → Nat → Prop) (rc rs rk : Nat) (K : zK) (lv : List (Nat × Value)) (st : List Value) (σ : bS) (c n : Nat) : z_hd tL_law cl po rc rs rk K 1024 lv st σ c n = z_st cl po rc rs rk K (.aload_n 1) [] 1024 lv st σ c n := (rfl)
set_option maxRecDepth 100000 in
theorem hL_law_1025 (cl : List zC) (po : Option Value → bS → Nat → Nat → Prop) (rc rs rk : Nat) (K : zK) (lv : List (Nat × Value)) (st : List Value) (σ : bS) (c n : Nat) : z_hd tL_law cl po rc rs rk K 1025 lv st σ c n = z_st cl po rc rs rk K (.iconst 0) [] 1025 lv st σ c n := (rfl)
set_option maxRecDepth 100000 in
theorem hL_law_1026 (cl : List zC) (po : Option Value → bS → Nat → Nat → Prop) (rc rs rk : Nat) (K : zK) (lv : List (Nat × Value)) (st : List Value) (σ : bS) (c n : Nat) : z_hd tL_law cl po rc rs rk K 1026 lv st σ c n = z_st cl po rc rs rk K (.invokevirtual 28) [] 1026 lv st σ c n := (rfl)
set_option maxRecDepth 100000 in
theorem hL_law_1029 (cl : List zC) (po : Option Value → bS → Nat → Nat → Prop) (rc rs rk : Nat) (K : zK) (lv : List (Nat × Value)) (st : List Value) (σ : bS) (c n : Nat) : z_hd tL_law cl po rc rs rk K 1029 lv st σ c n = z_st cl po rc rs rk K (.istore 20) [] 1029 lv st σ c n := (rfl)
set_option maxRecDepth 100000 in
theorem hL_law_1031 (cl : List zC) (po : Option Value → bS → Nat → Nat → Prop) (rc rs rk : Nat) (K : zK) (lv : List (Nat × Value)) (st : List Value) (σ : bS) (c n : Nat) : z_hd tL_law cl po rc rs rk K 1031 lv st σ c n = z_st cl po rc rs rk K (.iload_n 3) [] 1031 lv st σ c n := (rfl)
set_option maxRecDepth 100000 in
theorem hL_law_1032 (cl : List zC) (po : Option Value → bS → Nat → Nat → Prop) (rc rs rk : Nat) (K : zK) (lv : List (Nat × Value)) (st : List Value) (σ : bS) (c n : Nat) : z_hd tL_law cl po rc rs rk K 1032 lv st σ c n = z_st cl po rc rs rk K (.iload 18) [] 1032 lv st σ c n := (rfl)
set_option maxRecDepth 100000 in
theorem hL_law_1034 (cl : List zC) (po : Option Value → bS → Nat → Nat → Prop) (rc rs rk : Nat) (K : zK) (lv : List (Nat × Value)) (st : List Value) (σ : bS) (c n : Nat) : z_hd tL_law cl po rc rs rk K 1034 lv st σ c n = z_st cl po rc rs rk K (.iload 19) [] 1034 lv st σ c n := (rfl)
set_option maxRecDepth 100000 in
theorem hL_law_1036 (cl : List zC) (po : Option Value → bS → Nat → Nat → Prop) (rc rs rk : Nat) (K : zK) (lv : List (Nat × Value)) (st : List Value) (σ : bS) (c n : Nat) : z_hd tL_law cl po rc rs rk K 1036 lv st σ c n = z_st cl po rc rs rk K (.imul) [] 1036 lv st σ c n := (rfl)
set_option maxRecDepth 100000 in
theorem hL_law_1037 (cl : List zC) (po : Option Value → bS → Nat → Nat → Prop) (rc rs rk : Nat) (K : zK) (lv : List (Nat × Value)) (st : List Value) (σ : bS) (c n : Nat) : z_hd tL_law cl po rc rs rk K 1037 lv st σ c n = z_st cl po rc rs rk K (.iadd) [] 1037 lv st σ c n := (rfl)
set_option maxRecDepth 100000 in
theorem hL_law_1038 (cl : List zC) (po : Option Value → bS → Nat → Nat → Prop) (rc rs rk : Nat) (K : zK) (lv : List (Nat × Value)) (st : List Value) (σ : bS) (c n : Nat) : z_hd tL_law cl po rc rs rk K 1038 lv st σ c n = z_st cl po rc rs rk K (.istore_n 3) [] 1038 lv st σ c n := (rfl)
set_option maxRecDepth 100000 in
theorem hL_law_1039 (cl : List zC) (po : Option Value → bS → Nat → Nat → Prop) (rc rs rk : Nat) (K : zK) (lv : List (Nat × Value)) (st : List Value) (σ : bS) (c n : Nat) : z_hd tL_law cl po rc rs rk K 1039 lv st σ c n = z_st cl po rc rs rk K (.aload_n 1) [] 1039 lv st σ c n := (rfl)
set_option maxRecDepth 100000 in
theorem hL_law_1040 (cl : List zC) (po : Option Value → bS → Nat → Nat → Prop) (rc rs rk : Nat) (K : zK) (lv : List (Nat × Value)) (st : List Value) (σ : bS) (c n : Nat) : z_hd tL_law cl po rc rs rk K 1040 lv st σ c n = z_st cl po rc rs rk K (.iload 18) [] 1040 lv st σ c n := (rfl)
set_option maxRecDepth 100000 in
theorem hL_law_1042 (cl : List zC) (po : Option Value → bS → Nat → Nat → Prop) (rc rs rk : Nat) (K : zK) (lv : List (Nat × Value)) (st : List Value) (σ : bS) (c n : Nat) : z_hd tL_law cl po rc rs rk K 1042 lv st σ c n = z_st cl po rc rs rk K (.iload 19) [] 1042 lv st σ c n := (rfl)
set_option maxRecDepth 100000 in
theorem hL_law_1044 (cl : List zC) (po : Option Value → bS → Nat → Nat → Prop) (rc rs rk : Nat) (K : zK) (lv : List (Nat × Value)) (st : List Value) (σ : bS) (c n : Nat) : z_hd tL_law cl po rc rs rk K 1044 lv st σ c n = z_st cl po rc rs rk K (.invokevirtual 96) [] 1044 lv st σ c n := (rfl)
set_option maxRecDepth 100000 in
theorem hL_law_1047 (cl : List zC) (po : Option Value → bS → Nat → Nat → Prop) (rc rs rk : Nat) (K : zK) (lv : List (Nat × Value)) (st : List Value) (σ : bS) (c n : Nat) : z_hd tL_law cl po rc rs rk K 1047 lv st σ c n = z_st cl po rc rs rk K (.istore 21) [] 1047 lv st σ c n := (rfl)
set_option maxRecDepth 100000 in
theorem hL_law_1049 (cl : List zC) (po : Option Value → bS → Nat → Nat → Prop) (rc rs rk : Nat) (K : zK) (lv : List (Nat × Value)) (st : List Value) (σ : bS) (c n : Nat) : z_hd tL_law cl po rc rs rk K 1049 lv st σ c n = z_st cl po rc rs rk K (.iload 16) [] 1049 lv st σ c n := (rfl)
set_option maxRecDepth 100000 in
theorem hL_law_1051 (cl : List zC) (po : Option Value → bS → Nat → Nat → Prop) (rc rs rk : Nat) (K : zK) (lv : List (Nat × Value)) (st : List Value) (σ : bS) (c n : Nat) : z_hd tL_law cl po rc rs rk K 1051 lv st σ c n = z_st cl po rc rs rk K (.iload 4) [] 1051 lv st σ c n := (rfl)
set_option maxRecDepth 100000 in
theorem hL_law_1053 (cl : List zC) (po : Option Value → bS → Nat → Nat → Prop) (rc rs rk : Nat) (K : zK) (lv : List (Nat × Value)) (st : List Value) (σ : bS) (c n : Nat) : z_hd tL_law cl po rc rs rk K 1053 lv st σ c n = z_st cl po rc rs rk K (.iload 19) [] 1053 lv st σ c n := (rfl)
set_option maxRecDepth 100000 in
theorem hL_law_1055 (cl : List zC) (po : Option Value → bS → Nat → Nat → Prop) (rc rs rk : Nat) (K : zK) (lv : List (Nat × Value)) (st : List Value) (σ : bS) (c n : Nat) : z_hd tL_law cl po rc rs rk K 1055 lv st σ c n = z_st cl po rc rs rk K (.imul) [] 1055 lv st σ c n := (rfl)
set_option maxRecDepth 100000 in
theorem hL_law_1056 (cl : List zC) (po : Option Value → bS → Nat → Nat → Prop) (rc rs rk : Nat) (K : zK) (lv : List (Nat × Value)) (st : List Value) (σ : bS) (c n : Nat) : z_hd tL_law cl po rc rs rk K 1056 lv st σ c n = z_st cl po rc rs rk K (.iadd) [] 1056 lv st σ c n := (rfl)
set_option maxRecDepth 100000 in
theorem hL_law_1057 (cl : List zC) (po : Option Value → bS → Nat → Nat → Prop) (rc rs rk : Nat) (K : zK) (lv : List (Nat × Value)) (st : List Value) (σ : bS) (c n : Nat) : z_hd tL_law cl po rc rs rk K 1057 lv st σ c n = z_st cl po rc rs rk K (.istore 16) [] 1057 lv st σ c n := (rfl)
set_option maxRecDepth 100000 in
theorem hL_law_1059 (cl : List zC) (po : Option Value → bS → Nat → Nat → Prop) (rc rs rk : Nat) (K : zK) (lv : List (Nat × Value)) (st : List Value) (σ : bS) (c n : Nat) : z_hd tL_law cl po rc rs rk K 1059 lv st σ c n = z_st cl po rc rs rk K (.aload_n 1) [] 1059 lv st σ c n := (rfl)
set_option maxRecDepth 100000 in
theorem hL_law_1060 (cl : List zC) (po : Option Value → bS → Nat → Nat → Prop) (rc rs rk : Nat) (K : zK) (lv : List (Nat × Value)) (st : List Value) (σ : bS) (c n : Nat) : z_hd tL_law cl po rc rs rk K 1060 lv st σ c n = z_st cl po rc rs rk K (.invokestatic 32) [] 1060 lv st σ c n := (rfl)
set_option maxRecDepth 100000 in
theorem hL_law_1063 (cl : List zC) (po : Option Value → bS → Nat → Nat → Prop) (rc rs rk : Nat) (K : zK) (lv : List (Nat × Value)) (st : List Value) (σ : bS) (c n : Nat) : z_hd tL_law cl po rc rs rk K 1063 lv st σ c n = z_st cl po rc rs rk K (.istore 17) [] 1063 lv st σ c n := (rfl)
set_option maxRecDepth 100000 in
theorem hL_law_1065 (cl : List zC) (po : Option Value → bS → Nat → Nat → Prop) (rc rs rk : Nat) (K : zK) (lv : List (Nat × Value)) (st : List Value) (σ : bS) (c n : Nat) : z_hd tL_law cl po rc rs rk K 1065 lv st σ c n = z_st cl po rc rs rk K (.iload 21) [] 1065 lv st σ c n := (rfl)
set_option maxRecDepth 100000 in
theorem hL_law_1067 (cl : List zC) (po : Option Value → bS → Nat → Nat → Prop) (rc rs rk : Nat) (K : zK) (lv : List (Nat × Value)) (st : List Value) (σ : bS) (c n : Nat) : z_hd tL_law cl po rc rs rk K 1067 lv st σ c n = z_st cl po rc rs rk K (.ifCond .lt 23) [1090] 1067 lv st σ c n := (rfl)
set_option maxRecDepth 100000 in
theorem hL_law_1070 (cl : List zC) (po : Option Value → bS → Nat → Nat → Prop) (rc rs rk : Nat) (K : zK) (lv : List (Nat × Value)) (st : List Value) (σ : bS) (c n : Nat) : z_hd tL_law cl po rc rs rk K 1070 lv st σ c n = z_st cl po rc rs rk K (.aload_n 1) [] 1070 lv st σ c n := (rfl)
set_option maxRecDepth 100000 in
theorem hL_law_1071 (cl : List zC) (po : Option Value → bS → Nat → Nat → Prop) (rc rs rk : Nat) (K : zK) (lv : List (Nat × Value)) (st : List Value) (σ : bS) (c n : Nat) : z_hd tL_law cl po rc rs rk K 1071 lv st σ c n = z_st cl po rc rs rk K (.iconst 0) [] 1071 lv st σ c n := (rfl)
set_option maxRecDepth 100000 in
theorem hL_law_1072 (cl : List zC) (po : Option Value → bS → Nat → Nat → Prop) (rc rs rk : Nat) (K : zK) (lv : List (Nat × Value)) (st : List Value) (σ : bS) (c n : Nat) : z_hd tL_law cl po rc rs rk K 1072 lv st σ c n = z_st cl po rc rs rk K (.invokevirtual 28) [] 1072 lv st σ c n := (rfl)
set_option maxRecDepth 100000 in
theorem hL_law_1075 (cl : List zC) (po : Option Value → bS → Nat → Nat → Prop) (rc rs rk : Nat) (K : zK) (lv : List (Nat × Value)) (st : List Value) (σ : bS) (c n : Nat) : z_hd tL_law cl po rc rs rk K 1075 lv st σ c n = z_st cl po rc rs rk K (.iload 20) [] 1075 lv st σ c n := (rfl)
set_option maxRecDepth 100000 in
theorem hL_law_1077 (cl : List zC) (po : Option Value → bS → Nat → Nat → Prop) (rc rs rk : Nat) (K : zK) (lv : List (Nat × Value)) (st : List Value) (σ : bS) (c n : Nat) : z_hd tL_law cl po rc rs rk K 1077 lv st σ c n = z_st cl po rc rs rk K (.iload 19) [] 1077 lv st σ c n := (rfl)
set_option maxRecDepth 100000 in
theorem hL_law_1079 (cl : List zC) (po : Option Value → bS → Nat → Nat → Prop) (rc rs rk : Nat) (K : zK) (lv : List (Nat × Value)) (st : List Value) (σ : bS) (c n : Nat) : z_hd tL_law cl po rc rs rk K 1079 lv st σ c n = z_st cl po rc rs rk K (.iadd) [] 1079 lv st σ c n := (rfl)
set_option maxRecDepth 100000 in
theorem hL_law_1080 (cl : List zC) (po : Option Value → bS → Nat → Nat → Prop) (rc rs rk : Nat) (K : zK) (lv : List (Nat × Value)) (st : List Value) (σ : bS) (c n : Nat) : z_hd tL_law cl po rc rs rk K 1080 lv st σ c n = z_st cl po rc rs rk K (.if_icmp .ne 10) [1090] 1080 lv st σ c n := (rfl)
set_option maxRecDepth 100000 in
theorem hL_law_1083 (cl : List zC) (po : Option Value → bS → Nat → Nat → Prop) (rc rs rk : Nat) (K : zK) (lv : List (Nat × Value)) (st : List Value) (σ : bS) (c n : Nat) : z_hd tL_law cl po rc rs rk K 1083 lv st σ c n = z_st cl po rc rs rk K (.iload 17) [] 1083 lv st σ c n := (rfl)
set_option maxRecDepth 100000 in
theorem hL_law_1085 (cl : List zC) (po : Option Value → bS → Nat → Nat → Prop) (rc rs rk : Nat) (K : zK) (lv : List (Nat × Value)) (st : List Value) (σ : bS) (c n : Nat) : z_hd tL_law cl po rc rs rk K 1085 lv st σ c n = z_st cl po rc rs rk K (.iload 14) [] 1085 lv st σ c n := (rfl)
set_option maxRecDepth 100000 in
theorem hL_law_1087 (cl : List zC) (po : Option Value → bS → Nat → Nat → Prop) (rc rs rk : Nat) (K : zK) (lv : List (Nat × Value)) (st : List Value) (σ : bS) (c n : Nat) : z_hd tL_law cl po rc rs rk K 1087 lv st σ c n = z_st cl po rc rs rk K (.if_icmp .ge 5) [1092] 1087 lv st σ c n := (rfl)
set_option maxRecDepth 100000 in
theorem hL_law_1090 (cl : List zC) (po : Option Value → bS → Nat → Nat → Prop) (rc rs rk : Nat) (K : zK) (lv : List (Nat × Value)) (st : List Value) (σ : bS) (c n : Nat) : z_hd tL_law cl po rc rs rk K 1090 lv st σ c n = z_st cl po rc rs rk K (.iconst 0) [] 1090 lv st σ c n := (rfl)
set_option maxRecDepth 100000 in
theorem hL_law_1091 (cl : List zC) (po : Option Value → bS → Nat → Nat → Prop) (rc rs rk : Nat) (K : zK) (lv : List (Nat × Value)) (st : List Value) (σ : bS) (c n : Nat) : z_hd tL_law cl po rc rs rk K 1091 lv st σ c n = z_st cl po rc rs rk K (.ireturn) [] 1091 lv st σ c n := (rfl)
set_option maxRecDepth 100000 in
theorem hL_law_1092 (cl : List zC) (po : Option Value → bS → Nat → Nat → Prop) (rc rs rk : Nat) (K : zK) (lv : List (Nat × Value)) (st : List Value) (σ : bS) (c n : Nat) : z_hd tL_law cl po rc rs rk K 1092 lv st σ c n = z_st cl po rc rs rk K (.aload_n 1) [] 1092 lv st σ c n := (rfl)
set_option maxRecDepth 100000 in
theorem hL_law_1093 (cl : List zC) (po : Option Value → bS → Nat → Nat → Prop) (rc rs rk : Nat) (K : zK) (lv : List (Nat × Value)) (st : List Value) (σ : bS) (c n : Nat) : z_hd tL_law cl po rc rs rk K 1093 lv st σ c n = z_st cl po rc rs rk K (.bipush 14) [] 1093 lv st σ c n := (rfl)
set_option maxRecDepth 100000 in
theorem hL_law_1095 (cl : List zC) (po : Option Value → bS → Nat → Nat → Prop) (rc rs rk : Nat) (K : zK) (lv : List (Nat × Value)) (st : List Value) (σ : bS) (c n : Nat) : z_hd tL_law cl po rc rs rk K 1095 lv st σ c n = z_st cl po rc rs rk K (.invokevirtual 28) [] 1095 lv st σ c n := (rfl)
set_option maxRecDepth 100000 in
theorem hL_law_1098 (cl : List zC) (po : Option Value → bS → Nat → Nat → Prop) (rc rs rk : Nat) (K : zK) (lv : List (Nat × Value)) (st : List Value) (σ : bS) (c n : Nat) : z_hd tL_law cl po rc rs rk K 1098 lv st σ c n = z_st cl po rc rs rk K (.iload 16) [] 1098 lv st σ c n := (rfl)
set_option maxRecDepth 100000 in
theorem hL_law_1100 (cl : List zC) (po : Option Value → bS → Nat → Nat → Prop) (rc rs rk : Nat) (K : zK) (lv : List (Nat × Value)) (st : List Value) (σ : bS) (c n : Nat) : z_hd tL_law cl po rc rs rk K 1100 lv st σ c n = z_st cl po rc rs rk K (.if_icmp .ne 12) [1112] 1100 lv st σ c n := (rfl)
set_option maxRecDepth 100000 in
theorem hL_law_1103 (cl : List zC) (po : Option Value → bS → Nat → Nat → Prop) (rc rs rk : Nat) (K : zK) (lv : List (Nat × Value)) (st : List Value) (σ : bS) (c n : Nat) : z_hd tL_law cl po rc rs rk K 1103 lv st σ c n = z_st cl po rc rs rk K (.aload_n 1) [] 1103 lv st σ c n := (rfl)
set_option maxRecDepth 100000 in
theorem hL_law_1104 (cl : List zC) (po : Option Value → bS → Nat → Nat → Prop) (rc rs rk : Nat) (K : zK) (lv : List (Nat × Value)) (st : List Value) (σ : bS) (c n : Nat) : z_hd tL_law cl po rc rs rk K 1104 lv st σ c n = z_st cl po rc rs rk K (.invokestatic 32) [] 1104 lv st σ c n := (rfl)
set_option maxRecDepth 100000 in
theorem hL_law_1107 (cl : List zC) (po : Option Value → bS → Nat → Nat → Prop) (rc rs rk : Nat) (K : zK) (lv : List (Nat × Value)) (st : List Value) (σ : bS) (c n : Nat) : z_hd tL_law cl po rc rs rk K 1107 lv st σ c n = z_st cl po rc rs rk K (.iload 17) [] 1107 lv st σ c n := (rfl)
set_option maxRecDepth 100000 in
theorem hL_law_1109 (cl : List zC) (po : Option Value → bS → Nat → Nat → Prop) (rc rs rk : Nat) (K : zK) (lv : List (Nat × Value)) (st : List Value) (σ : bS) (c n : Nat) : z_hd tL_law cl po rc rs rk K 1109 lv st σ c n = z_st cl po rc rs rk K (.if_icmp .eq 5) [1114] 1109 lv st σ c n := (rfl)
set_option maxRecDepth 100000 in
theorem hL_law_1112 (cl : List zC) (po : Option Value → bS → Nat → Nat → Prop) (rc rs rk : Nat) (K : zK) (lv : List (Nat × Value)) (st : List Value) (σ : bS) (c n : Nat) : z_hd tL_law cl po rc rs rk K 1112 lv st σ c n = z_st cl po rc rs rk K (.iconst 0) [] 1112 lv st σ c n := (rfl)
set_option maxRecDepth 100000 in
theorem hL_law_1113 (cl : List zC) (po : Option Value → bS → Nat → Nat → Prop) (rc rs rk : Nat) (K : zK) (lv : List (Nat × Value)) (st : List Value) (σ : bS) (c n : Nat) : z_hd tL_law cl po rc rs rk K 1113 lv st σ c n = z_st cl po rc rs rk K (.ireturn) [] 1113 lv st σ c n := (rfl)
set_option maxRecDepth 100000 in
theorem hL_law_1114 (cl : List zC) (po : Option Value → bS → Nat → Nat → Prop) (rc rs rk : Nat) (K : zK) (lv : List (Nat × Value)) (st : List Value) (σ : bS) (c n : Nat) : z_hd tL_law cl po rc rs rk K 1114 lv st σ c n = z_st cl po rc rs rk K (.iconst 0) [] 1114 lv st σ c n := (rfl)
set_option maxRecDepth 100000 in
theorem hL_law_1115 (cl : List zC) (po : Option Value → bS → Nat → Nat → Prop) (rc rs rk : Nat) (K : zK) (lv : List (Nat × Value)) (st : List Value) (σ : bS) (c n : Nat) : z_hd tL_law cl po rc rs rk K 1115 lv st σ c n = z_st cl po rc rs rk K (.istore 18) [] 1115 lv st σ c n := (rfl)
set_option maxRecDepth 100000 in
theorem hL_law_1117 (cl : List zC) (po : Option Value → bS → Nat → Nat → Prop) (rc rs rk : Nat) (K : zK) (lv : List (Nat × Value)) (st : List Value) (σ : bS) (c n : Nat) : z_hd tL_law cl po rc rs rk K 1117 lv st σ c n = z_st cl po rc rs rk K (.iload 18) [] 1117 lv st σ c n := (rfl)
set_option maxRecDepth 100000 in
theorem hL_law_1119 (cl : List zC) (po : Option Value → bS → Nat → Nat → Prop) (rc rs rk : Nat) (K : zK) (lv : List (Nat × Value)) (st : List Value) (σ : bS) (c n : Nat) : z_hd tL_law cl po rc rs rk K 1119 lv st σ c n = z_st cl po rc rs rk K (.iload_n 2) [] 1119 lv st σ c n := (rfl)
set_option maxRecDepth 100000 in
theorem hL_law_1120 (cl : List zC) (po : Option Value → bS → Nat → Nat → Prop) (rc rs rk : Nat) (K : zK) (lv : List (Nat × Value)) (st : List Value) (σ : bS) (c n : Nat) : z_hd tL_law cl po rc rs rk K 1120 lv st σ c n = z_st cl po rc rs rk K (.if_icmp .ge 96) [1216] 1120 lv st σ c n := (rfl)
set_option maxRecDepth 100000 in
theorem hL_law_1123 (cl : List zC) (po : Option Value → bS → Nat → Nat → Prop) (rc rs rk : Nat) (K : zK) (lv : List (Nat × Value)) (st : List Value) (σ : bS) (c n : Nat) : z_hd tL_law cl po rc rs rk K 1123 lv st σ c n = z_st cl po rc rs rk K (.aload_n 1) [] 1123 lv st σ c n := (rfl)
set_option maxRecDepth 100000 in
theorem hL_law_1124 (cl : List zC) (po : Option Value → bS → Nat → Nat → Prop) (rc rs rk : Nat) (K : zK) (lv : List (Nat × Value)) (st : List Value) (σ : bS) (c n : Nat) : z_hd tL_law cl po rc rs rk K 1124 lv st σ c n = z_st cl po rc rs rk K (.iload 18) [] 1124 lv st σ c n := (rfl)
set_option maxRecDepth 100000 in
theorem hL_law_1126 (cl : List zC) (po : Option Value → bS → Nat → Nat → Prop) (rc rs rk : Nat) (K : zK) (lv : List (Nat × Value)) (st : List Value) (σ : bS) (c n : Nat) : z_hd tL_law cl po rc rs rk K 1126 lv st σ c n = z_st cl po rc rs rk K (.iconst 0) [] 1126 lv st σ c n := (rfl)
set_option maxRecDepth 100000 in
theorem hL_law_1127 (cl : List zC) (po : Option Value → bS → Nat → Nat → Prop) (rc rs rk : Nat) (K : zK) (lv : List (Nat × Value)) (st : List Value) (σ : bS) (c n : Nat) : z_hd tL_law cl po rc rs rk K 1127 lv st σ c n = z_st cl po rc rs rk K (.invokevirtual 40) [] 1127 lv st σ c n := (rfl)
set_option maxRecDepth 100000 in
theorem hL_law_1130 (cl : List zC) (po : Option Value → bS → Nat → Nat → Prop) (rc rs rk : Nat) (K : zK) (lv : List (Nat × Value)) (st : List Value) (σ : bS) (c n : Nat) : z_hd tL_law cl po rc rs rk K 1130 lv st σ c n = z_st cl po rc rs rk K (.istore 19) [] 1130 lv st σ c n := (rfl)
set_option maxRecDepth 100000 in
theorem hL_law_1132 (cl : List zC) (po : Option Value → bS → Nat → Nat → Prop) (rc rs rk : Nat) (K : zK) (lv : List (Nat × Value)) (st : List Value) (σ : bS) (c n : Nat) : z_hd tL_law cl po rc rs rk K 1132 lv st σ c n = z_st cl po rc rs rk K (.aload_n 1) [] 1132 lv st σ c n := (rfl)
set_option maxRecDepth 100000 in
theorem hL_law_1133 (cl : List zC) (po : Option Value → bS → Nat → Nat → Prop) (rc rs rk : Nat) (K : zK) (lv : List (Nat × Value)) (st : List Value) (σ : bS) (c n : Nat) : z_hd tL_law cl po rc rs rk K 1133 lv st σ c n = z_st cl po rc rs rk K (.iload 18) [] 1133 lv st σ c n := (rfl)
set_option maxRecDepth 100000 in
theorem hL_law_1135 (cl : List zC) (po : Option Value → bS → Nat → Nat → Prop) (rc rs rk : Nat) (K : zK) (lv : List (Nat × Value)) (st : List Value) (σ : bS) (c n : Nat) : z_hd tL_law cl po rc rs rk K 1135 lv st σ c n = z_st cl po rc rs rk K (.iconst 5) [] 1135 lv st σ c n := (rfl)
set_option maxRecDepth 100000 in
theorem hL_law_1136 (cl : List zC) (po : Option Value → bS → Nat → Nat → Prop) (rc rs rk : Nat) (K : zK) (lv : List (Nat × Value)) (st : List Value) (σ : bS) (c n : Nat) : z_hd tL_law cl po rc rs rk K 1136 lv st σ c n = z_st cl po rc rs rk K (.invokevirtual 40) [] 1136 lv st σ c n := (rfl)
set_option maxRecDepth 100000 in
theorem hL_law_1139 (cl : List zC) (po : Option Value → bS → Nat → Nat → Prop) (rc rs rk : Nat) (K : zK) (lv : List (Nat × Value)) (st : List Value) (σ : bS) (c n : Nat) : z_hd tL_law cl po rc rs rk K 1139 lv st σ c n = z_st cl po rc rs rk K (.istore 20) [] 1139 lv st σ c n := (rfl)
set_option maxRecDepth 100000 in
theorem hL_law_1141 (cl : List zC) (po : Option Value → bS → Nat → Nat → Prop) (rc rs rk : Nat) (K : zK) (lv : List (Nat × Value)) (st : List Value) (σ : bS) (c n : Nat) : z_hd tL_law cl po rc rs rk K 1141 lv st σ c n = z_st cl po rc rs rk K (.aload 6) [] 1141 lv st σ c n := (rfl)
set_option maxRecDepth 100000 in
theorem hL_law_1143 (cl : List zC) (po : Option Value → bS → Nat → Nat → Prop) (rc rs rk : Nat) (K : zK) (lv : List (Nat × Value)) (st : List Value) (σ : bS) (c n : Nat) : z_hd tL_law cl po rc rs rk K 1143 lv st σ c n = z_st cl po rc rs rk K (.iload 18) [] 1143 lv st σ c n := (rfl)
set_option maxRecDepth 100000 in
theorem hL_law_1145 (cl : List zC) (po : Option Value → bS → Nat → Nat → Prop) (rc rs rk : Nat) (K : zK) (lv : List (Nat × Value)) (st : List Value) (σ : bS) (c n : Nat) : z_hd tL_law cl po rc rs rk K 1145 lv st σ c n = z_st cl po rc rs rk K (.iaload) [] 1145 lv st σ c n := (rfl)
set_option maxRecDepth 100000 in
theorem hL_law_1146 (cl : List zC) (po : Option Value → bS → Nat → Nat → Prop) (rc rs rk : Nat) (K : zK) (lv : List (Nat × Value)) (st : List Value) (σ : bS) (c n : Nat) : z_hd tL_law cl po rc rs rk K 1146 lv st σ c n = z_st cl po rc rs rk K (.bipush 8) [] 1146 lv st σ c n := (rfl)
set_option maxRecDepth 100000 in
theorem hL_law_1148 (cl : List zC) (po : Option Value → bS → Nat → Nat → Prop) (rc rs rk : Nat) (K : zK) (lv : List (Nat × Value)) (st : List Value) (σ : bS) (c n : Nat) : z_hd tL_law cl po rc rs rk K 1148 lv st σ c n = z_st cl po rc rs rk K (.if_icmp .le 13) [1161] 1148 lv st σ c n := (rfl)
set_option maxRecDepth 100000 in
theorem hL_law_1151 (cl : List zC) (po : Option Value → bS → Nat → Nat → Prop) (rc rs rk : Nat) (K : zK) (lv : List (Nat × Value)) (st : List Value) (σ : bS) (c n : Nat) : z_hd tL_law cl po rc rs rk K 1151 lv st σ c n = z_st cl po rc rs rk K (.iload 19) [] 1151 lv st σ c n := (rfl)
set_option maxRecDepth 100000 in
theorem hL_law_1153 (cl : List zC) (po : Option Value → bS → Nat → Nat → Prop) (rc rs rk : Nat) (K : zK) (lv : List (Nat × Value)) (st : List Value) (σ : bS) (c n : Nat) : z_hd tL_law cl po rc rs rk K 1153 lv st σ c n = z_st cl po rc rs rk K (.aload 6) [] 1153 lv st σ c n := (rfl)
set_option maxRecDepth 100000 in
theorem hL_law_1155 (cl : List zC) (po : Option Value → bS → Nat → Nat → Prop) (rc rs rk : Nat) (K : zK) (lv : List (Nat × Value)) (st : List Value) (σ : bS) (c n : Nat) : z_hd tL_law cl po rc rs rk K 1155 lv st σ c n = z_st cl po rc rs rk K (.iload 18) [] 1155 lv st σ c n := (rfl)
set_option maxRecDepth 100000 in
theorem hL_law_1157 (cl : List zC) (po : Option Value → bS → Nat → Nat → Prop) (rc rs rk : Nat) (K : zK) (lv : List (Nat × Value)) (st : List Value) (σ : bS) (c n : Nat) : z_hd tL_law cl po rc rs rk K 1157 lv st σ c n = z_st cl po rc rs rk K (.iaload) [] 1157 lv st σ c n := (rfl)
set_option maxRecDepth 100000 in
theorem hL_law_1158 (cl : List zC) (po : Option Value → bS → Nat → Nat → Prop) (rc rs rk : Nat) (K : zK) (lv : List (Nat × Value)) (st : List Value) (σ : bS) (c n : Nat) : z_hd tL_law cl po rc rs rk K 1158 lv st σ c n = z_st cl po rc rs rk K (.if_icmp .ne 36) [1194] 1158 lv st σ c n := (rfl)
set_option maxRecDepth 100000 in
theorem hL_law_1161 (cl : List zC) (po : Option Value → bS → Nat → Nat → Prop) (rc rs rk : Nat) (K : zK) (lv : List (Nat × Value)) (st : List Value) (σ : bS) (c n : Nat) : z_hd tL_law cl po rc rs rk K 1161 lv st σ c n = z_st cl po rc rs rk K (.aload 6) [] 1161 lv st σ c n := (rfl)
set_option maxRecDepth 100000 in
theorem hL_law_1163 (cl : List zC) (po : Option Value → bS → Nat → Nat → Prop) (rc rs rk : Nat) (K : zK) (lv : List (Nat × Value)) (st : List Value) (σ : bS) (c n : Nat) : z_hd tL_law cl po rc rs rk K 1163 lv st σ c n = z_st cl po rc rs rk K (.iload 18) [] 1163 lv st σ c n := (rfl)
set_option maxRecDepth 100000 in
theorem hL_law_1165 (cl : List zC) (po : Option Value → bS → Nat → Nat → Prop) (rc rs rk : Nat) (K : zK) (lv : List (Nat × Value)) (st : List Value) (σ : bS) (c n : Nat) : z_hd tL_law cl po rc rs rk K 1165 lv st σ c n = z_st cl po rc rs rk K (.iaload) [] 1165 lv st σ c n := (rfl)
set_option maxRecDepth 100000 in
theorem hL_law_1166 (cl : List zC) (po : Option Value → bS → Nat → Nat → Prop) (rc rs rk : Nat) (K : zK) (lv : List (Nat × Value)) (st : List Value) (σ : bS) (c n : Nat) : z_hd tL_law cl po rc rs rk K 1166 lv st σ c n = z_st cl po rc rs rk K (.ifCond .le 8) [1174] 1166 lv st σ c n := (rfl)
set_option maxRecDepth 100000 in
theorem hL_law_1169 (cl : List zC) (po : Option Value → bS → Nat → Nat → Prop) (rc rs rk : Nat) (K : zK) (lv : List (Nat × Value)) (st : List Value) (σ : bS) (c n : Nat) : z_hd tL_law cl po rc rs rk K 1169 lv st σ c n = z_st cl po rc rs rk K (.iload 19) [] 1169 lv st σ c n := (rfl)
set_option maxRecDepth 100000 in
theorem hL_law_1171 (cl : List zC) (po : Option Value → bS → Nat → Nat → Prop) (rc rs rk : Nat) (K : zK) (lv : List (Nat × Value)) (st : List Value) (σ : bS) (c n : Nat) : z_hd tL_law cl po rc rs rk K 1171 lv st σ c n = z_st cl po rc rs rk K (.ifCond .eq 23) [1194] 1171 lv st σ c n := (rfl)
set_option maxRecDepth 100000 in
theorem hL_law_1174 (cl : List zC) (po : Option Value → bS → Nat → Nat → Prop) (rc rs rk : Nat) (K : zK) (lv : List (Nat × Value)) (st : List Value) (σ : bS) (c n : Nat) : z_hd tL_law cl po rc rs rk K 1174 lv st σ c n = z_st cl po rc rs rk K (.iload 18) [] 1174 lv st σ c n := (rfl)
set_option maxRecDepth 100000 in
theorem hL_law_1176 (cl : List zC) (po : Option Value → bS → Nat → Nat → Prop) (rc rs rk : Nat) (K : zK) (lv : List (Nat × Value)) (st : List Value) (σ : bS) (c n : Nat) : z_hd tL_law cl po rc rs rk K 1176 lv st σ c n = z_st cl po rc rs rk K (.iload 15) [] 1176 lv st σ c n := (rfl)
set_option maxRecDepth 100000 in
theorem hL_law_1178 (cl : List zC) (po : Option Value → bS → Nat → Nat → Prop) (rc rs rk : Nat) (K : zK) (lv : List (Nat × Value)) (st : List Value) (σ : bS) (c n : Nat) : z_hd tL_law cl po rc rs rk K 1178 lv st σ c n = z_st cl po rc rs rk K (.if_icmp .eq 18) [1196] 1178 lv st σ c n := (rfl)
set_option maxRecDepth 100000 in
theorem hL_law_1181 (cl : List zC) (po : Option Value → bS → Nat → Nat → Prop) (rc rs rk : Nat) (K : zK) (lv : List (Nat × Value)) (st : List Value) (σ : bS) (c n : Nat) : z_hd tL_law cl po rc rs rk K 1181 lv st σ c n = z_st cl po rc rs rk K (.iload 20) [] 1181 lv st σ c n := (rfl)
set_option maxRecDepth 100000 in
theorem hL_law_1183 (cl : List zC) (po : Option Value → bS → Nat → Nat → Prop) (rc rs rk : Nat) (K : zK) (lv : List (Nat × Value)) (st : List Value) (σ : bS) (c n : Nat) : z_hd tL_law cl po rc rs rk K 1183 lv st σ c n = z_st cl po rc rs rk K (.aload 7) [] 1183 lv st σ c n := (rfl)
set_option maxRecDepth 100000 in
theorem hL_law_1185 (cl : List zC) (po : Option Value → bS → Nat → Nat → Prop) (rc rs rk : Nat) (K : zK) (lv : List (Nat × Value)) (st : List Value) (σ : bS) (c n : Nat) : z_hd tL_law cl po rc rs rk K 1185 lv st σ c n = z_st cl po rc rs rk K (.iload 18) [] 1185 lv st σ c n := (rfl)
set_option maxRecDepth 100000 in
theorem hL_law_1187 (cl : List zC) (po : Option Value → bS → Nat → Nat → Prop) (rc rs rk : Nat) (K : zK) (lv : List (Nat × Value)) (st : List Value) (σ : bS) (c n : Nat) : z_hd tL_law cl po rc rs rk K 1187 lv st σ c n = z_st cl po rc rs rk K (.iaload) [] 1187 lv st σ c n := (rfl)
set_option maxRecDepth 100000 in
theorem hL_law_1188 (cl : List zC) (po : Option Value → bS → Nat → Nat → Prop) (rc rs rk : Nat) (K : zK) (lv : List (Nat × Value)) (st : List Value) (σ : bS) (c n : Nat) : z_hd tL_law cl po rc rs rk K 1188 lv st σ c n = z_st cl po rc rs rk K (.iconst (-1)) [] 1188 lv st σ c n := (rfl)
set_option maxRecDepth 100000 in
theorem hL_law_1189 (cl : List zC) (po : Option Value → bS → Nat → Nat → Prop) (rc rs rk : Nat) (K : zK) (lv : List (Nat × Value)) (st : List Value) (σ : bS) (c n : Nat) : z_hd tL_law cl po rc rs rk K 1189 lv st σ c n = z_st cl po rc rs rk K (.ixor) [] 1189 lv st σ c n := (rfl)
set_option maxRecDepth 100000 in
theorem hL_law_1190 (cl : List zC) (po : Option Value → bS → Nat → Nat → Prop) (rc rs rk : Nat) (K : zK) (lv : List (Nat × Value)) (st : List Value) (σ : bS) (c n : Nat) : z_hd tL_law cl po rc rs rk K 1190 lv st σ c n = z_st cl po rc rs rk K (.iand) [] 1190 lv st σ c n := (rfl)
set_option maxRecDepth 100000 in
theorem hL_law_1191 (cl : List zC) (po : Option Value → bS → Nat → Nat → Prop) (rc rs rk : Nat) (K : zK) (lv : List (Nat × Value)) (st : List Value) (σ : bS) (c n : Nat) : z_hd tL_law cl po rc rs rk K 1191 lv st σ c n = z_st cl po rc rs rk K (.ifCond .eq 5) [1196] 1191 lv st σ c n := (rfl)
set_option maxRecDepth 100000 in
theorem hL_law_1194 (cl : List zC) (po : Option Value → bS → Nat → Nat → Prop) (rc rs rk : Nat) (K : zK) (lv : List (Nat × Value)) (st : List Value) (σ : bS) (c n : Nat) : z_hd tL_law cl po rc rs rk K 1194 lv st σ c n = z_st cl po rc rs rk K (.iconst 0) [] 1194 lv st σ c n := (rfl)
set_option maxRecDepth 100000 in
theorem hL_law_1195 (cl : List zC) (po : Option Value → bS → Nat → Nat → Prop) (rc rs rk : Nat) (K : zK) (lv : List (Nat × Value)) (st : List Value) (σ : bS) (c n : Nat) : z_hd tL_law cl po rc rs rk K 1195 lv st σ c n = z_st cl po rc rs rk K (.ireturn) [] 1195 lv st σ c n := (rfl)
set_option maxRecDepth 100000 in
theorem hL_law_1196 (cl : List zC) (po : Option Value → bS → Nat → Nat → Prop) (rc rs rk : Nat) (K : zK) (lv : List (Nat × Value)) (st : List Value) (σ : bS) (c n : Nat) : z_hd tL_law cl po rc rs rk K 1196 lv st σ c n = z_st cl po rc rs rk K (.aload 6) [] 1196 lv st σ c n := (rfl)
set_option maxRecDepth 100000 in
theorem hL_law_1198 (cl : List zC) (po : Option Value → bS → Nat → Nat → Prop) (rc rs rk : Nat) (K : zK) (lv : List (Nat × Value)) (st : List Value) (σ : bS) (c n : Nat) : z_hd tL_law cl po rc rs rk K 1198 lv st σ c n = z_st cl po rc rs rk K (.iload 18) [] 1198 lv st σ c n := (rfl)
set_option maxRecDepth 100000 in
theorem hL_law_1200 (cl : List zC) (po : Option Value → bS → Nat → Nat → Prop) (rc rs rk : Nat) (K : zK) (lv : List (Nat × Value)) (st : List Value) (σ : bS) (c n : Nat) : z_hd tL_law cl po rc rs rk K 1200 lv st σ c n = z_st cl po rc rs rk K (.iload 19) [] 1200 lv st σ c n := (rfl)
set_option maxRecDepth 100000 in
theorem hL_law_1202 (cl : List zC) (po : Option Value → bS → Nat → Nat → Prop) (rc rs rk : Nat) (K : zK) (lv : List (Nat × Value)) (st : List Value) (σ : bS) (c n : Nat) : z_hd tL_law cl po rc rs rk K 1202 lv st σ c n = z_st cl po rc rs rk K (.iastore) [] 1202 lv st σ c n := (rfl)
set_option maxRecDepth 100000 in
theorem hL_law_1203 (cl : List zC) (po : Option Value → bS → Nat → Nat → Prop) (rc rs rk : Nat) (K : zK) (lv : List (Nat × Value)) (st : List Value) (σ : bS) (c n : Nat) : z_hd tL_law cl po rc rs rk K 1203 lv st σ c n = z_st cl po rc rs rk K (.aload 7) [] 1203 lv st σ c n := (rfl)
set_option maxRecDepth 100000 in
theorem hL_law_1205 (cl : List zC) (po : Option Value → bS → Nat → Nat → Prop) (rc rs rk : Nat) (K : zK) (lv : List (Nat × Value)) (st : List Value) (σ : bS) (c n : Nat) : z_hd tL_law cl po rc rs rk K 1205 lv st σ c n = z_st cl po rc rs rk K (.iload 18) [] 1205 lv st σ c n := (rfl)
set_option maxRecDepth 100000 in
theorem hL_law_1207 (cl : List zC) (po : Option Value → bS → Nat → Nat → Prop) (rc rs rk : Nat) (K : zK) (lv : List (Nat × Value)) (st : List Value) (σ : bS) (c n : Nat) : z_hd tL_law cl po rc rs rk K 1207 lv st σ c n = z_st cl po rc rs rk K (.iload 20) [] 1207 lv st σ c n := (rfl)
set_option maxRecDepth 100000 in
theorem hL_law_1209 (cl : List zC) (po : Option Value → bS → Nat → Nat → Prop) (rc rs rk : Nat) (K : zK) (lv : List (Nat × Value)) (st : List Value) (σ : bS) (c n : Nat) : z_hd tL_law cl po rc rs rk K 1209 lv st σ c n = z_st cl po rc rs rk K (.iastore) [] 1209 lv st σ c n := (rfl)
set_option maxRecDepth 100000 in
theorem hL_law_1210 (cl : List zC) (po : Option Value → bS → Nat → Nat → Prop) (rc rs rk : Nat) (K : zK) (lv : List (Nat × Value)) (st : List Value) (σ : bS) (c n : Nat) : z_hd tL_law cl po rc rs rk K 1210 lv st σ c n = z_st cl po rc rs rk K (.iinc 18 1) [] 1210 lv st σ c n := (rfl)
set_option maxRecDepth 100000 in
theorem hL_law_1213 (cl : List zC) (po : Option Value → bS → Nat → Nat → Prop) (rc rs rk : Nat) (K : zK) (lv : List (Nat × Value)) (st : List Value) (σ : bS) (c n : Nat) : z_hd tL_law cl po rc rs rk K 1213 lv st σ c n = z_st cl po rc rs rk K (.goto (-96)) [1117] 1213 lv st σ c n := (rfl)
set_option maxRecDepth 100000 in
theorem hL_law_1216 (cl : List zC) (po : Option Value → bS → Nat → Nat → Prop) (rc rs rk : Nat) (K : zK) (lv : List (Nat × Value)) (st : List Value) (σ : bS) (c n : Nat) : z_hd tL_law cl po rc rs rk K 1216 lv st σ c n = z_st cl po rc rs rk K (.aload_n 1) [] 1216 lv st σ c n := (rfl)
set_option maxRecDepth 100000 in
theorem hL_law_1217 (cl : List zC) (po : Option Value → bS → Nat → Nat → Prop) (rc rs rk : Nat) (K : zK) (lv : List (Nat × Value)) (st : List Value) (σ : bS) (c n : Nat) : z_hd tL_law cl po rc rs rk K 1217 lv st σ c n = z_st cl po rc rs rk K (.iload_n 2) [] 1217 lv st σ c n := (rfl)
set_option maxRecDepth 100000 in
theorem hL_law_1218 (cl : List zC) (po : Option Value → bS → Nat → Nat → Prop) (rc rs rk : Nat) (K : zK) (lv : List (Nat × Value)) (st : List Value) (σ : bS) (c n : Nat) : z_hd tL_law cl po rc rs rk K 1218 lv st σ c n = z_st cl po rc rs rk K (.invokestatic 99) [] 1218 lv st σ c n := (rfl)
set_option maxRecDepth 100000 in
theorem hL_law_1221 (cl : List zC) (po : Option Value → bS → Nat → Nat → Prop) (rc rs rk : Nat) (K : zK) (lv : List (Nat × Value)) (st : List Value) (σ : bS) (c n : Nat) : z_hd tL_law cl po rc rs rk K 1221 lv st σ c n = z_st cl po rc rs rk K (.ifCond .eq 24) [1245] 1221 lv st σ c n := (rfl)
set_option maxRecDepth 100000 in
theorem hL_law_1224 (cl : List zC) (po : Option Value → bS → Nat → Nat → Prop) (rc rs rk : Nat) (K : zK) (lv : List (Nat × Value)) (st : List Value) (σ : bS) (c n : Nat) : z_hd tL_law cl po rc rs rk K 1224 lv st σ c n = z_st cl po rc rs rk K (.aload_n 1) [] 1224 lv st σ c n := (rfl)
set_option maxRecDepth 100000 in
theorem hL_law_1225 (cl : List zC) (po : Option Value → bS → Nat → Nat → Prop) (rc rs rk : Nat) (K : zK) (lv : List (Nat × Value)) (st : List Value) (σ : bS) (c n : Nat) : z_hd tL_law cl po rc rs rk K 1225 lv st σ c n = z_st cl po rc rs rk K (.bipush 17) [] 1225 lv st σ c n := (rfl)
set_option maxRecDepth 100000 in
theorem hL_law_1227 (cl : List zC) (po : Option Value → bS → Nat → Nat → Prop) (rc rs rk : Nat) (K : zK) (lv : List (Nat × Value)) (st : List Value) (σ : bS) (c n : Nat) : z_hd tL_law cl po rc rs rk K 1227 lv st σ c n = z_st cl po rc rs rk K (.invokevirtual 28) [] 1227 lv st σ c n := (rfl)
set_option maxRecDepth 100000 in
theorem hL_law_1230 (cl : List zC) (po : Option Value → bS → Nat → Nat → Prop) (rc rs rk : Nat) (K : zK) (lv : List (Nat × Value)) (st : List Value) (σ : bS) (c n : Nat) : z_hd tL_law cl po rc rs rk K 1230 lv st σ c n = z_st cl po rc rs rk K (.iload_n 3) [] 1230 lv st σ c n := (rfl)
set_option maxRecDepth 100000 in
theorem hL_law_1231 (cl : List zC) (po : Option Value → bS → Nat → Nat → Prop) (rc rs rk : Nat) (K : zK) (lv : List (Nat × Value)) (st : List Value) (σ : bS) (c n : Nat) : z_hd tL_law cl po rc rs rk K 1231 lv st σ c n = z_st cl po rc rs rk K (.if_icmp .gt 14) [1245] 1231 lv st σ c n := (rfl)
set_option maxRecDepth 100000 in
theorem hL_law_1234 (cl : List zC) (po : Option Value → bS → Nat → Nat → Prop) (rc rs rk : Nat) (K : zK) (lv : List (Nat × Value)) (st : List Value) (σ : bS) (c n : Nat) : z_hd tL_law cl po rc rs rk K 1234 lv st σ c n = z_st cl po rc rs rk K (.aload_n 1) [] 1234 lv st σ c n := (rfl)
set_option maxRecDepth 100000 in
theorem hL_law_1235 (cl : List zC) (po : Option Value → bS → Nat → Nat → Prop) (rc rs rk : Nat) (K : zK) (lv : List (Nat × Value)) (st : List Value) (σ : bS) (c n : Nat) : z_hd tL_law cl po rc rs rk K 1235 lv st σ c n = z_st cl po rc rs rk K (.bipush 16) [] 1235 lv st σ c n := (rfl)
set_option maxRecDepth 100000 in
theorem hL_law_1237 (cl : List zC) (po : Option Value → bS → Nat → Nat → Prop) (rc rs rk : Nat) (K : zK) (lv : List (Nat × Value)) (st : List Value) (σ : bS) (c n : Nat) : z_hd tL_law cl po rc rs rk K 1237 lv st σ c n = z_st cl po rc rs rk K (.invokevirtual 28) [] 1237 lv st σ c n := (rfl)
set_option maxRecDepth 100000 in
theorem hL_law_1240 (cl : List zC) (po : Option Value → bS → Nat → Nat → Prop) (rc rs rk : Nat) (K : zK) (lv : List (Nat × Value)) (st : List Value) (σ : bS) (c n : Nat) : z_hd tL_law cl po rc rs rk K 1240 lv st σ c n = z_st cl po rc rs rk K (.iload 5) [] 1240 lv st σ c n := (rfl)
set_option maxRecDepth 100000 in
theorem hL_law_1242 (cl : List zC) (po : Option Value → bS → Nat → Nat → Prop) (rc rs rk : Nat) (K : zK) (lv : List (Nat × Value)) (st : List Value) (σ : bS) (c n : Nat) : z_hd tL_law cl po rc rs rk K 1242 lv st σ c n = z_st cl po rc rs rk K (.if_icmp .eq 5) [1247] 1242 lv st σ c n := (rfl)
set_option maxRecDepth 100000 in
theorem hL_law_1245 (cl : List zC) (po : Option Value → bS → Nat → Nat → Prop) (rc rs rk : Nat) (K : zK) (lv : List (Nat × Value)) (st : List Value) (σ : bS) (c n : Nat) : z_hd tL_law cl po rc rs rk K 1245 lv st σ c n = z_st cl po rc rs rk K (.iconst 0) [] 1245 lv st σ c n := (rfl)
set_option maxRecDepth 100000 in
theorem hL_law_1246 (cl : List zC) (po : Option Value → bS → Nat → Nat → Prop) (rc rs rk : Nat) (K : zK) (lv : List (Nat × Value)) (st : List Value) (σ : bS) (c n : Nat) : z_hd tL_law cl po rc rs rk K 1246 lv st σ c n = z_st cl po rc rs rk K (.ireturn) [] 1246 lv st σ c n := (rfl)
set_option maxRecDepth 100000 in
theorem hL_law_1247 (cl : List zC) (po : Option Value → bS → Nat → Nat → Prop) (rc rs rk : Nat) (K : zK) (lv : List (Nat × Value)) (st : List Value) (σ : bS) (c n : Nat) : z_hd tL_law cl po rc rs rk K 1247 lv st σ c n = z_st cl po rc rs rk K (.iinc 8 1) [] 1247 lv st σ c n := (rfl)
set_option maxRecDepth 100000 in
theorem hL_law_1250 (cl : List zC) (po : Option Value → bS → Nat → Nat → Prop) (rc rs rk : Nat) (K : zK) (lv : List (Nat × Value)) (st : List Value) (σ : bS) (c n : Nat) : z_hd tL_law cl po rc rs rk K 1250 lv st σ c n = z_st cl po rc rs rk K (.goto (-1120)) [130] 1250 lv st σ c n := (rfl)
set_option maxRecDepth 100000 in
theorem hL_law_1253 (cl : List zC) (po : Option Value → bS → Nat → Nat → Prop) (rc rs rk : Nat) (K : zK) (lv : List (Nat × Value)) (st : List Value) (σ : bS) (c n : Nat) : z_hd tL_law cl po rc rs rk K 1253 lv st σ c n = z_st cl po rc rs rk K (.aload_n 1) [] 1253 lv st σ c n := (rfl)
set_option maxRecDepth 100000 in
theorem hL_law_1254 (cl : List zC) (po : Option Value → bS → Nat → Nat → Prop) (rc rs rk : Nat) (K : zK) (lv : List (Nat × Value)) (st : List Value) (σ : bS) (c n : Nat) : z_hd tL_law cl po rc rs rk K 1254 lv st σ c n = z_st cl po rc rs rk K (.invokevirtual 103) [] 1254 lv st σ c n := (rfl)
set_option maxRecDepth 100000 in
theorem hL_law_1257 (cl : List zC) (po : Option Value → bS → Nat → Nat → Prop) (rc rs rk : Nat) (K : zK) (lv : List (Nat × Value)) (st : List Value) (σ : bS) (c n : Nat) : z_hd tL_law cl po rc rs rk K 1257 lv st σ c n = z_st cl po rc rs rk K (.lstore 8) [] 1257 lv st σ c n := (rfl)
set_option maxRecDepth 100000 in
theorem hL_law_1259 (cl : List zC) (po : Option Value → bS → Nat → Nat → Prop) (rc rs rk : Nat) (K : zK) (lv : List (Nat × Value)) (st : List Value) (σ : bS) (c n : Nat) : z_hd tL_law cl po rc rs rk K 1259 lv st σ c n = z_st cl po rc rs rk K (.aload_n 1) [] 1259 lv st σ c n := (rfl)
set_option maxRecDepth 100000 in
theorem hL_law_1260 (cl : List zC) (po : Option Value → bS → Nat → Nat → Prop) (rc rs rk : Nat) (K : zK) (lv : List (Nat × Value)) (st : List Value) (σ : bS) (c n : Nat) : z_hd tL_law cl po rc rs rk K 1260 lv st σ c n = z_st cl po rc rs rk K (.iload_n 2) [] 1260 lv st σ c n := (rfl)
set_option maxRecDepth 100000 in
theorem hL_law_1261 (cl : List zC) (po : Option Value → bS → Nat → Nat → Prop) (rc rs rk : Nat) (K : zK) (lv : List (Nat × Value)) (st : List Value) (σ : bS) (c n : Nat) : z_hd tL_law cl po rc rs rk K 1261 lv st σ c n = z_st cl po rc rs rk K (.invokestatic 99) [] 1261 lv st σ c n := (rfl)
set_option maxRecDepth 100000 in
theorem hL_law_1264 (cl : List zC) (po : Option Value → bS → Nat → Nat → Prop) (rc rs rk : Nat) (K : zK) (lv : List (Nat × Value)) (st : List Value) (σ : bS) (c n : Nat) : z_hd tL_law cl po rc rs rk K 1264 lv st σ c n = z_st cl po rc rs rk K (.ifCond .eq 17) [1281] 1264 lv st σ c n := (rfl)
set_option maxRecDepth 100000 in
theorem hL_law_1267 (cl : List zC) (po : Option Value → bS → Nat → Nat → Prop) (rc rs rk : Nat) (K : zK) (lv : List (Nat × Value)) (st : List Value) (σ : bS) (c n : Nat) : z_hd tL_law cl po rc rs rk K 1267 lv st σ c n = z_st cl po rc rs rk K (.aload_n 1) [] 1267 lv st σ c n := (rfl)
set_option maxRecDepth 100000 in
theorem hL_law_1268 (cl : List zC) (po : Option Value → bS → Nat → Nat → Prop) (rc rs rk : Nat) (K : zK) (lv : List (Nat × Value)) (st : List Value) (σ : bS) (c n : Nat) : z_hd tL_law cl po rc rs rk K 1268 lv st σ c n = z_st cl po rc rs rk K (.invokevirtual 103) [] 1268 lv st σ c n := (rfl)
set_option maxRecDepth 100000 in
theorem hL_law_1271 (cl : List zC) (po : Option Value → bS → Nat → Nat → Prop) (rc rs rk : Nat) (K : zK) (lv : List (Nat × Value)) (st : List Value) (σ : bS) (c n : Nat) : z_hd tL_law cl po rc rs rk K 1271 lv st σ c n = z_st cl po rc rs rk K (.lload 8) [] 1271 lv st σ c n := (rfl)
set_option maxRecDepth 100000 in
theorem hL_law_1273 (cl : List zC) (po : Option Value → bS → Nat → Nat → Prop) (rc rs rk : Nat) (K : zK) (lv : List (Nat × Value)) (st : List Value) (σ : bS) (c n : Nat) : z_hd tL_law cl po rc rs rk K 1273 lv st σ c n = z_st cl po rc rs rk K (.lcmp) [] 1273 lv st σ c n := (rfl)
set_option maxRecDepth 100000 in
theorem hL_law_1274 (cl : List zC) (po : Option Value → bS → Nat → Nat → Prop) (rc rs rk : Nat) (K : zK) (lv : List (Nat × Value)) (st : List Value) (σ : bS) (c n : Nat) : z_hd tL_law cl po rc rs rk K 1274 lv st σ c n = z_st cl po rc rs rk K (.ifCond .ne 7) [1281] 1274 lv st σ c n := (rfl)
set_option maxRecDepth 100000 in
theorem hL_law_1277 (cl : List zC) (po : Option Value → bS → Nat → Nat → Prop) (rc rs rk : Nat) (K : zK) (lv : List (Nat × Value)) (st : List Value) (σ : bS) (c n : Nat) : z_hd tL_law cl po rc rs rk K 1277 lv st σ c n = z_st cl po rc rs rk K (.iconst 1) [] 1277 lv st σ c n := (rfl)
set_option maxRecDepth 100000 in
theorem hL_law_1278 (cl : List zC) (po : Option Value → bS → Nat → Nat → Prop) (rc rs rk : Nat) (K : zK) (lv : List (Nat × Value)) (st : List Value) (σ : bS) (c n : Nat) : z_hd tL_law cl po rc rs rk K 1278 lv st σ c n = z_st cl po rc rs rk K (.goto 4) [1282] 1278 lv st σ c n := (rfl)
set_option maxRecDepth 100000 in
theorem hL_law_1281 (cl : List zC) (po : Option Value → bS → Nat → Nat → Prop) (rc rs rk : Nat) (K : zK) (lv : List (Nat × Value)) (st : List Value) (σ : bS) (c n : Nat) : z_hd tL_law cl po rc rs rk K 1281 lv st σ c n = z_st cl po rc rs rk K (.iconst 0) [] 1281 lv st σ c n := (rfl)
set_option maxRecDepth 100000 in
theorem hL_law_1282 (cl : List zC) (po : Option Value → bS → Nat → Nat → Prop) (rc rs rk : Nat) (K : zK) (lv : List (Nat × Value)) (st : List Value) (σ : bS) (c n : Nat) : z_hd tL_law cl po rc rs rk K 1282 lv st σ c n = z_st cl po rc rs rk K (.ireturn) [] 1282 lv st σ c n := (rfl)
set_option maxRecDepth 100000 in
theorem hL_money_0 (cl : List zC) (po : Option Value → bS → Nat → Nat → Prop) (rc rs rk : Nat) (K : zK) (lv : List (Nat × Value)) (st : List Value) (σ : bS) (c n : Nat) : z_hd tL_money cl po rc rs rk K 0 lv st σ c n = z_st cl po rc rs rk K (.iconst 0) [] 0 lv st σ c n := (rfl)
set_option maxRecDepth 100000 in
theorem hL_money_1 (cl : List zC) (po : Option Value → bS → Nat → Nat → Prop) (rc rs rk : Nat) (K : zK) (lv : List (Nat × Value)) (st : List Value) (σ : bS) (c n : Nat) : z_hd tL_money cl po rc rs rk K 1 lv st σ c n = z_st cl po rc rs rk K (.istore_n 1) [] 1 lv st σ c n := (rfl)
set_option maxRecDepth 100000 in
theorem hL_money_2 (cl : List zC) (po : Option Value → bS → Nat → Nat → Prop) (rc rs rk : Nat) (K : zK) (lv : List (Nat × Value)) (st : List Value) (σ : bS) (c n : Nat) : z_hd tL_money cl po rc rs rk K 2 lv st σ c n = z_st cl po rc rs rk K (.iconst 0) [] 2 lv st σ c n := (rfl)
set_option maxRecDepth 100000 in
theorem hL_money_3 (cl : List zC) (po : Option Value → bS → Nat → Nat → Prop) (rc rs rk : Nat) (K : zK) (lv : List (Nat × Value)) (st : List Value) (σ : bS) (c n : Nat) : z_hd tL_money cl po rc rs rk K 3 lv st σ c n = z_st cl po rc rs rk K (.istore_n 2) [] 3 lv st σ c n := (rfl)
set_option maxRecDepth 100000 in
theorem hL_money_4 (cl : List zC) (po : Option Value → bS → Nat → Nat → Prop) (rc rs rk : Nat) (K : zK) (lv : List (Nat × Value)) (st : List Value) (σ : bS) (c n : Nat) : z_hd tL_money cl po rc rs rk K 4 lv st σ c n = z_st cl po rc rs rk K (.iload_n 2) [] 4 lv st σ c n := (rfl)
set_option maxRecDepth 100000 in
theorem hL_money_5 (cl : List zC) (po : Option Value → bS → Nat → Nat → Prop) (rc rs rk : Nat) (K : zK) (lv : List (Nat × Value)) (st : List Value) (σ : bS) (c n : Nat) : z_hd tL_money cl po rc rs rk K 5 lv st σ c n = z_st cl po rc rs rk K (.iconst 4) [] 5 lv st σ c n := (rfl)
set_option maxRecDepth 100000 in
theorem hL_money_6 (cl : List zC) (po : Option Value → bS → Nat → Nat → Prop) (rc rs rk : Nat) (K : zK) (lv : List (Nat × Value)) (st : List Value) (σ : bS) (c n : Nat) : z_hd tL_money cl po rc rs rk K 6 lv st σ c n = z_st cl po rc rs rk K (.if_icmp .ge 18) [24] 6 lv st σ c n := (rfl)
set_option maxRecDepth 100000 in
theorem hL_money_9 (cl : List zC) (po : Option Value → bS → Nat → Nat → Prop) (rc rs rk : Nat) (K : zK) (lv : List (Nat × Value)) (st : List Value) (σ : bS) (c n : Nat) : z_hd tL_money cl po rc rs rk K 9 lv st σ c n = z_st cl po rc rs rk K (.iload_n 1) [] 9 lv st σ c n := (rfl)
set_option maxRecDepth 100000 in
theorem hL_money_10 (cl : List zC) (po : Option Value → bS → Nat → Nat → Prop) (rc rs rk : Nat) (K : zK) (lv : List (Nat × Value)) (st : List Value) (σ : bS) (c n : Nat) : z_hd tL_money cl po rc rs rk K 10 lv st σ c n = z_st cl po rc rs rk K (.aload_n 0) [] 10 lv st σ c n := (rfl)
set_option maxRecDepth 100000 in
theorem hL_money_11 (cl : List zC) (po : Option Value → bS → Nat → Nat → Prop) (rc rs rk : Nat) (K : zK) (lv : List (Nat × Value)) (st : List Value) (σ : bS) (c n : Nat) : z_hd tL_money cl po rc rs rk K 11 lv st σ c n = z_st cl po rc rs rk K (.iload_n 2) [] 11 lv st σ c n := (rfl)
set_option maxRecDepth 100000 in
theorem hL_money_12 (cl : List zC) (po : Option Value → bS → Nat → Nat → Prop) (rc rs rk : Nat) (K : zK) (lv : List (Nat × Value)) (st : List Value) (σ : bS) (c n : Nat) : z_hd tL_money cl po rc rs rk K 12 lv st σ c n = z_st cl po rc rs rk K (.iconst 1) [] 12 lv st σ c n := (rfl)
set_option maxRecDepth 100000 in
theorem hL_money_13 (cl : List zC) (po : Option Value → bS → Nat → Nat → Prop) (rc rs rk : Nat) (K : zK) (lv : List (Nat × Value)) (st : List Value) (σ : bS) (c n : Nat) : z_hd tL_money cl po rc rs rk K 13 lv st σ c n = z_st cl po rc rs rk K (.invokevirtual 43) [] 13 lv st σ c n := (rfl)
set_option maxRecDepth 100000 in
theorem hL_money_16 (cl : List zC) (po : Option Value → bS → Nat → Nat → Prop) (rc rs rk : Nat) (K : zK) (lv : List (Nat × Value)) (st : List Value) (σ : bS) (c n : Nat) : z_hd tL_money cl po rc rs rk K 16 lv st σ c n = z_st cl po rc rs rk K (.iadd) [] 16 lv st σ c n := (rfl)
set_option maxRecDepth 100000 in
theorem hL_money_17 (cl : List zC) (po : Option Value → bS → Nat → Nat → Prop) (rc rs rk : Nat) (K : zK) (lv : List (Nat × Value)) (st : List Value) (σ : bS) (c n : Nat) : z_hd tL_money cl po rc rs rk K 17 lv st σ c n = z_st cl po rc rs rk K (.istore_n 1) [] 17 lv st σ c n := (rfl)
set_option maxRecDepth 100000 in
theorem hL_money_18 (cl : List zC) (po : Option Value → bS → Nat → Nat → Prop) (rc rs rk : Nat) (K : zK) (lv : List (Nat × Value)) (st : List Value) (σ : bS) (c n : Nat) : z_hd tL_money cl po rc rs rk K 18 lv st σ c n = z_st cl po rc rs rk K (.iinc 2 1) [] 18 lv st σ c n := (rfl)
set_option maxRecDepth 100000 in
theorem hL_money_21 (cl : List zC) (po : Option Value → bS → Nat → Nat → Prop) (rc rs rk : Nat) (K : zK) (lv : List (Nat × Value)) (st : List Value) (σ : bS) (c n : Nat) : z_hd tL_money cl po rc rs rk K 21 lv st σ c n = z_st cl po rc rs rk K (.goto (-17)) [4] 21 lv st σ c n := (rfl)
set_option maxRecDepth 100000 in
theorem hL_money_24 (cl : List zC) (po : Option Value → bS → Nat → Nat → Prop) (rc rs rk : Nat) (K : zK) (lv : List (Nat × Value)) (st : List Value) (σ : bS) (c n : Nat) : z_hd tL_money cl po rc rs rk K 24 lv st σ c n = z_st cl po rc rs rk K (.iload_n 1) [] 24 lv st σ c n := (rfl)
set_option maxRecDepth 100000 in
theorem hL_money_25 (cl : List zC) (po : Option Value → bS → Nat → Nat → Prop) (rc rs rk : Nat) (K : zK) (lv : List (Nat × Value)) (st : List Value) (σ : bS) (c n : Nat) : z_hd tL_money cl po rc rs rk K 25 lv st σ c n = z_st cl po rc rs rk K (.ireturn) [] 25 lv st σ c n := (rfl)
set_option maxRecDepth 100000 in
theorem hL_isSo_0 (cl : List zC) (po : Option Value → bS → Nat → Nat → Prop) (rc rs rk : Nat) (K : zK) (lv : List (Nat × Value)) (st : List Value) (σ : bS) (c n : Nat) : z_hd tL_isSo cl po rc rs rk K 0 lv st σ c n = z_st cl po rc rs rk K (.bipush 11) [] 0 lv st σ c n := (rfl)
set_option maxRecDepth 100000 in
theorem hL_isSo_2 (cl : List zC) (po : Option Value → bS → Nat → Nat → Prop) (rc rs rk : Nat) (K : zK) (lv : List (Nat × Value)) (st : List Value) (σ : bS) (c n : Nat) : z_hd tL_isSo cl po rc rs rk K 2 lv st σ c n = z_st cl po rc rs rk K (.newarray .int) [] 2 lv st σ c n := (rfl)
set_option maxRecDepth 100000 in
theorem hL_isSo_4 (cl : List zC) (po : Option Value → bS → Nat → Nat → Prop) (rc rs rk : Nat) (K : zK) (lv : List (Nat × Value)) (st : List Value) (σ : bS) (c n : Nat) : z_hd tL_isSo cl po rc rs rk K 4 lv st σ c n = z_st cl po rc rs rk K (.astore_n 2) [] 4 lv st σ c n := (rfl)
set_option maxRecDepth 100000 in
theorem hL_isSo_5 (cl : List zC) (po : Option Value → bS → Nat → Nat → Prop) (rc rs rk : Nat) (K : zK) (lv : List (Nat × Value)) (st : List Value) (σ : bS) (c n : Nat) : z_hd tL_isSo cl po rc rs rk K 5 lv st σ c n = z_st cl po rc rs rk K (.bipush 66) [] 5 lv st σ c n := (rfl)
set_option maxRecDepth 100000 in
theorem hL_isSo_7 (cl : List zC) (po : Option Value → bS → Nat → Nat → Prop) (rc rs rk : Nat) (K : zK) (lv : List (Nat × Value)) (st : List Value) (σ : bS) (c n : Nat) : z_hd tL_isSo cl po rc rs rk K 7 lv st σ c n = z_st cl po rc rs rk K (.newarray .int) [] 7 lv st σ c n := (rfl)
set_option maxRecDepth 100000 in
theorem hL_isSo_9 (cl : List zC) (po : Option Value → bS → Nat → Nat → Prop) (rc rs rk : Nat) (K : zK) (lv : List (Nat × Value)) (st : List Value) (σ : bS) (c n : Nat) : z_hd tL_isSo cl po rc rs rk K 9 lv st σ c n = z_st cl po rc rs rk K (.astore_n 3) [] 9 lv st σ c n := (rfl)
set_option maxRecDepth 100000 in
theorem hL_isSo_10 (cl : List zC) (po : Option Value → bS → Nat → Nat → Prop) (rc rs rk : Nat) (K : zK) (lv : List (Nat × Value)) (st : List Value) (σ : bS) (c n : Nat) : z_hd tL_isSo cl po rc rs rk K 10 lv st σ c n = z_st cl po rc rs rk K (.iconst 0) [] 10 lv st σ c n := (rfl)
set_option maxRecDepth 100000 in
theorem hL_isSo_11 (cl : List zC) (po : Option Value → bS → Nat → Nat → Prop) (rc rs rk : Nat) (K : zK) (lv : List (Nat × Value)) (st : List Value) (σ : bS) (c n : Nat) : z_hd tL_isSo cl po rc rs rk K 11 lv st σ c n = z_st cl po rc rs rk K (.istore 4) [] 11 lv st σ c n := (rfl)
set_option maxRecDepth 100000 in
theorem hL_isSo_13 (cl : List zC) (po : Option Value → bS → Nat → Nat → Prop) (rc rs rk : Nat) (K : zK) (lv : List (Nat × Value)) (st : List Value) (σ : bS) (c n : Nat) : z_hd tL_isSo cl po rc rs rk K 13 lv st σ c n = z_st cl po rc rs rk K (.iconst 0) [] 13 lv st σ c n := (rfl)
set_option maxRecDepth 100000 in
theorem hL_isSo_14 (cl : List zC) (po : Option Value → bS → Nat → Nat → Prop) (rc rs rk : Nat) (K : zK) (lv : List (Nat × Value)) (st : List Value) (σ : bS) (c n : Nat) : z_hd tL_isSo cl po rc rs rk K 14 lv st σ c n = z_st cl po rc rs rk K (.istore 5) [] 14 lv st σ c n := (rfl)
set_option maxRecDepth 100000 in
theorem hL_isSo_16 (cl : List zC) (po : Option Value → bS → Nat → Nat → Prop) (rc rs rk : Nat) (K : zK) (lv : List (Nat × Value)) (st : List Value) (σ : bS) (c n : Nat) : z_hd tL_isSo cl po rc rs rk K 16 lv st σ c n = z_st cl po rc rs rk K (.iconst 0) [] 16 lv st σ c n := (rfl)
set_option maxRecDepth 100000 in
theorem hL_isSo_17 (cl : List zC) (po : Option Value → bS → Nat → Nat → Prop) (rc rs rk : Nat) (K : zK) (lv : List (Nat × Value)) (st : List Value) (σ : bS) (c n : Nat) : z_hd tL_isSo cl po rc rs rk K 17 lv st σ c n = z_st cl po rc rs rk K (.istore 6) [] 17 lv st σ c n := (rfl)
set_option maxRecDepth 100000 in
theorem hL_isSo_19 (cl : List zC) (po : Option Value → bS → Nat → Nat → Prop) (rc rs rk : Nat) (K : zK) (lv : List (Nat × Value)) (st : List Value) (σ : bS) (c n : Nat) : z_hd tL_isSo cl po rc rs rk K 19 lv st σ c n = z_st cl po rc rs rk K (.iload 6) [] 19 lv st σ c n := (rfl)
set_option maxRecDepth 100000 in
theorem hL_isSo_21 (cl : List zC) (po : Option Value → bS → Nat → Nat → Prop) (rc rs rk : Nat) (K : zK) (lv : List (Nat × Value)) (st : List Value) (σ : bS) (c n : Nat) : z_hd tL_isSo cl po rc rs rk K 21 lv st σ c n = z_st cl po rc rs rk K (.iload_n 1) [] 21 lv st σ c n := (rfl)
set_option maxRecDepth 100000 in
theorem hL_isSo_22 (cl : List zC) (po : Option Value → bS → Nat → Nat → Prop) (rc rs rk : Nat) (K : zK) (lv : List (Nat × Value)) (st : List Value) (σ : bS) (c n : Nat) : z_hd tL_isSo cl po rc rs rk K 22 lv st σ c n = z_st cl po rc rs rk K (.if_icmp .ge 211) [233] 22 lv st σ c n := (rfl)
set_option maxRecDepth 100000 in
theorem hL_isSo_25 (cl : List zC) (po : Option Value → bS → Nat → Nat → Prop) (rc rs rk : Nat) (K : zK) (lv : List (Nat × Value)) (st : List Value) (σ : bS) (c n : Nat) : z_hd tL_isSo cl po rc rs rk K 25 lv st σ c n = z_st cl po rc rs rk K (.aload_n 0) [] 25 lv st σ c n := (rfl)
set_option maxRecDepth 100000 in
theorem hL_isSo_26 (cl : List zC) (po : Option Value → bS → Nat → Nat → Prop) (rc rs rk : Nat) (K : zK) (lv : List (Nat × Value)) (st : List Value) (σ : bS) (c n : Nat) : z_hd tL_isSo cl po rc rs rk K 26 lv st σ c n = z_st cl po rc rs rk K (.iload 6) [] 26 lv st σ c n := (rfl)
set_option maxRecDepth 100000 in
theorem hL_isSo_28 (cl : List zC) (po : Option Value → bS → Nat → Nat → Prop) (rc rs rk : Nat) (K : zK) (lv : List (Nat × Value)) (st : List Value) (σ : bS) (c n : Nat) : z_hd tL_isSo cl po rc rs rk K 28 lv st σ c n = z_st cl po rc rs rk K (.iconst 0) [] 28 lv st σ c n := (rfl)
set_option maxRecDepth 100000 in
theorem hL_isSo_29 (cl : List zC) (po : Option Value → bS → Nat → Nat → Prop) (rc rs rk : Nat) (K : zK) (lv : List (Nat × Value)) (st : List Value) (σ : bS) (c n : Nat) : z_hd tL_isSo cl po rc rs rk K 29 lv st σ c n = z_st cl po rc rs rk K (.invokevirtual 40) [] 29 lv st σ c n := (rfl)
set_option maxRecDepth 100000 in
theorem hL_isSo_32 (cl : List zC) (po : Option Value → bS → Nat → Nat → Prop) (rc rs rk : Nat) (K : zK) (lv : List (Nat × Value)) (st : List Value) (σ : bS) (c n : Nat) : z_hd tL_isSo cl po rc rs rk K 32 lv st σ c n = z_st cl po rc rs rk K (.istore 7) [] 32 lv st σ c n := (rfl)
set_option maxRecDepth 100000 in
theorem hL_isSo_34 (cl : List zC) (po : Option Value → bS → Nat → Nat → Prop) (rc rs rk : Nat) (K : zK) (lv : List (Nat × Value)) (st : List Value) (σ : bS) (c n : Nat) : z_hd tL_isSo cl po rc rs rk K 34 lv st σ c n = z_st cl po rc rs rk K (.aload_n 0) [] 34 lv st σ c n := (rfl)
set_option maxRecDepth 100000 in
theorem hL_isSo_35 (cl : List zC) (po : Option Value → bS → Nat → Nat → Prop) (rc rs rk : Nat) (K : zK) (lv : List (Nat × Value)) (st : List Value) (σ : bS) (c n : Nat) : z_hd tL_isSo cl po rc rs rk K 35 lv st σ c n = z_st cl po rc rs rk K (.iload 6) [] 35 lv st σ c n := (rfl)
set_option maxRecDepth 100000 in
theorem hL_isSo_37 (cl : List zC) (po : Option Value → bS → Nat → Nat → Prop) (rc rs rk : Nat) (K : zK) (lv : List (Nat × Value)) (st : List Value) (σ : bS) (c n : Nat) : z_hd tL_isSo cl po rc rs rk K 37 lv st σ c n = z_st cl po rc rs rk K (.iconst 1) [] 37 lv st σ c n := (rfl)
set_option maxRecDepth 100000 in
theorem hL_isSo_38 (cl : List zC) (po : Option Value → bS → Nat → Nat → Prop) (rc rs rk : Nat) (K : zK) (lv : List (Nat × Value)) (st : List Value) (σ : bS) (c n : Nat) : z_hd tL_isSo cl po rc rs rk K 38 lv st σ c n = z_st cl po rc rs rk K (.invokevirtual 40) [] 38 lv st σ c n := (rfl)
set_option maxRecDepth 100000 in
theorem hL_isSo_41 (cl : List zC) (po : Option Value → bS → Nat → Nat → Prop) (rc rs rk : Nat) (K : zK) (lv : List (Nat × Value)) (st : List Value) (σ : bS) (c n : Nat) : z_hd tL_isSo cl po rc rs rk K 41 lv st σ c n = z_st cl po rc rs rk K (.istore 8) [] 41 lv st σ c n := (rfl)
set_option maxRecDepth 100000 in
theorem hL_isSo_43 (cl : List zC) (po : Option Value → bS → Nat → Nat → Prop) (rc rs rk : Nat) (K : zK) (lv : List (Nat × Value)) (st : List Value) (σ : bS) (c n : Nat) : z_hd tL_isSo cl po rc rs rk K 43 lv st σ c n = z_st cl po rc rs rk K (.iload 7) [] 43 lv st σ c n := (rfl)
set_option maxRecDepth 100000 in
theorem hL_isSo_45 (cl : List zC) (po : Option Value → bS → Nat → Nat → Prop) (rc rs rk : Nat) (K : zK) (lv : List (Nat × Value)) (st : List Value) (σ : bS) (c n : Nat) : z_hd tL_isSo cl po rc rs rk K 45 lv st σ c n = z_st cl po rc rs rk K (.ifCond .lt 64) [109] 45 lv st σ c n := (rfl)
set_option maxRecDepth 100000 in
theorem hL_isSo_48 (cl : List zC) (po : Option Value → bS → Nat → Nat → Prop) (rc rs rk : Nat) (K : zK) (lv : List (Nat × Value)) (st : List Value) (σ : bS) (c n : Nat) : z_hd tL_isSo cl po rc rs rk K 48 lv st σ c n = z_st cl po rc rs rk K (.iload 7) [] 48 lv st σ c n := (rfl)
set_option maxRecDepth 100000 in
theorem hL_isSo_50 (cl : List zC) (po : Option Value → bS → Nat → Nat → Prop) (rc rs rk : Nat) (K : zK) (lv : List (Nat × Value)) (st : List Value) (σ : bS) (c n : Nat) : z_hd tL_isSo cl po rc rs rk K 50 lv st σ c n = z_st cl po rc rs rk K (.bipush 10) [] 50 lv st σ c n := (rfl)
set_option maxRecDepth 100000 in
theorem hL_isSo_52 (cl : List zC) (po : Option Value → bS → Nat → Nat → Prop) (rc rs rk : Nat) (K : zK) (lv : List (Nat × Value)) (st : List Value) (σ : bS) (c n : Nat) : z_hd tL_isSo cl po rc rs rk K 52 lv st σ c n = z_st cl po rc rs rk K (.if_icmp .gt 57) [109] 52 lv st σ c n := (rfl)
set_option maxRecDepth 100000 in
theorem hL_isSo_55 (cl : List zC) (po : Option Value → bS → Nat → Nat → Prop) (rc rs rk : Nat) (K : zK) (lv : List (Nat × Value)) (st : List Value) (σ : bS) (c n : Nat) : z_hd tL_isSo cl po rc rs rk K 55 lv st σ c n = z_st cl po rc rs rk K (.iload 7) [] 55 lv st σ c n := (rfl)
set_option maxRecDepth 100000 in
theorem hL_isSo_57 (cl : List zC) (po : Option Value → bS → Nat → Nat → Prop) (rc rs rk : Nat) (K : zK) (lv : List (Nat × Value)) (st : List Value) (σ : bS) (c n : Nat) : z_hd tL_isSo cl po rc rs rk K 57 lv st σ c n = z_st cl po rc rs rk K (.iconst 5) [] 57 lv st σ c n := (rfl)
set_option maxRecDepth 100000 in
theorem hL_isSo_58 (cl : List zC) (po : Option Value → bS → Nat → Nat → Prop) (rc rs rk : Nat) (K : zK) (lv : List (Nat × Value)) (st : List Value) (σ : bS) (c n : Nat) : z_hd tL_isSo cl po rc rs rk K 58 lv st σ c n = z_st cl po rc rs rk K (.if_icmp .ge 7) [65] 58 lv st σ c n := (rfl)
set_option maxRecDepth 100000 in
theorem hL_isSo_61 (cl : List zC) (po : Option Value → bS → Nat → Nat → Prop) (rc rs rk : Nat) (K : zK) (lv : List (Nat × Value)) (st : List Value) (σ : bS) (c n : Nat) : z_hd tL_isSo cl po rc rs rk K 61 lv st σ c n = z_st cl po rc rs rk K (.iconst 1) [] 61 lv st σ c n := (rfl)
set_option maxRecDepth 100000 in
theorem hL_isSo_62 (cl : List zC) (po : Option Value → bS → Nat → Nat → Prop) (rc rs rk : Nat) (K : zK) (lv : List (Nat × Value)) (st : List Value) (σ : bS) (c n : Nat) : z_hd tL_isSo cl po rc rs rk K 62 lv st σ c n = z_st cl po rc rs rk K (.goto 4) [66] 62 lv st σ c n := (rfl)
set_option maxRecDepth 100000 in
theorem hL_isSo_65 (cl : List zC) (po : Option Value → bS → Nat → Nat → Prop) (rc rs rk : Nat) (K : zK) (lv : List (Nat × Value)) (st : List Value) (σ : bS) (c n : Nat) : z_hd tL_isSo cl po rc rs rk K 65 lv st σ c n = z_st cl po rc rs rk K (.iconst 0) [] 65 lv st σ c n := (rfl)
set_option maxRecDepth 100000 in
theorem hL_isSo_66 (cl : List zC) (po : Option Value → bS → Nat → Nat → Prop) (rc rs rk : Nat) (K : zK) (lv : List (Nat × Value)) (st : List Value) (σ : bS) (c n : Nat) : z_hd tL_isSo cl po rc rs rk K 66 lv st σ c n = z_st cl po rc rs rk K (.iload 8) [] 66 lv st σ c n := (rfl)
set_option maxRecDepth 100000 in
theorem hL_isSo_68 (cl : List zC) (po : Option Value → bS → Nat → Nat → Prop) (rc rs rk : Nat) (K : zK) (lv : List (Nat × Value)) (st : List Value) (σ : bS) (c n : Nat) : z_hd tL_isSo cl po rc rs rk K 68 lv st σ c n = z_st cl po rc rs rk K (.ifCond .lt 7) [75] 68 lv st σ c n := (rfl)
set_option maxRecDepth 100000 in
theorem hL_isSo_71 (cl : List zC) (po : Option Value → bS → Nat → Nat → Prop) (rc rs rk : Nat) (K : zK) (lv : List (Nat × Value)) (st : List Value) (σ : bS) (c n : Nat) : z_hd tL_isSo cl po rc rs rk K 71 lv st σ c n = z_st cl po rc rs rk K (.iconst 1) [] 71 lv st σ c n := (rfl)
set_option maxRecDepth 100000 in
theorem hL_isSo_72 (cl : List zC) (po : Option Value → bS → Nat → Nat → Prop) (rc rs rk : Nat) (K : zK) (lv : List (Nat × Value)) (st : List Value) (σ : bS) (c n : Nat) : z_hd tL_isSo cl po rc rs rk K 72 lv st σ c n = z_st cl po rc rs rk K (.goto 4) [76] 72 lv st σ c n := (rfl)
set_option maxRecDepth 100000 in
theorem hL_isSo_75 (cl : List zC) (po : Option Value → bS → Nat → Nat → Prop) (rc rs rk : Nat) (K : zK) (lv : List (Nat × Value)) (st : List Value) (σ : bS) (c n : Nat) : z_hd tL_isSo cl po rc rs rk K 75 lv st σ c n = z_st cl po rc rs rk K (.iconst 0) [] 75 lv st σ c n := (rfl)
set_option maxRecDepth 100000 in
theorem hL_isSo_76 (cl : List zC) (po : Option Value → bS → Nat → Nat → Prop) (rc rs rk : Nat) (K : zK) (lv : List (Nat × Value)) (st : List Value) (σ : bS) (c n : Nat) : z_hd tL_isSo cl po rc rs rk K 76 lv st σ c n = z_st cl po rc rs rk K (.if_icmp .ne 33) [109] 76 lv st σ c n := (rfl)
set_option maxRecDepth 100000 in
theorem hL_isSo_79 (cl : List zC) (po : Option Value → bS → Nat → Nat → Prop) (rc rs rk : Nat) (K : zK) (lv : List (Nat × Value)) (st : List Value) (σ : bS) (c n : Nat) : z_hd tL_isSo cl po rc rs rk K 79 lv st σ c n = z_st cl po rc rs rk K (.iload 8) [] 79 lv st σ c n := (rfl)
set_option maxRecDepth 100000 in
theorem hL_isSo_81 (cl : List zC) (po : Option Value → bS → Nat → Nat → Prop) (rc rs rk : Nat) (K : zK) (lv : List (Nat × Value)) (st : List Value) (σ : bS) (c n : Nat) : z_hd tL_isSo cl po rc rs rk K 81 lv st σ c n = z_st cl po rc rs rk K (.iconst 5) [] 81 lv st σ c n := (rfl)
set_option maxRecDepth 100000 in
theorem hL_isSo_82 (cl : List zC) (po : Option Value → bS → Nat → Nat → Prop) (rc rs rk : Nat) (K : zK) (lv : List (Nat × Value)) (st : List Value) (σ : bS) (c n : Nat) : z_hd tL_isSo cl po rc rs rk K 82 lv st σ c n = z_st cl po rc rs rk K (.if_icmp .gt 27) [109] 82 lv st σ c n := (rfl)
set_option maxRecDepth 100000 in
theorem hL_isSo_85 (cl : List zC) (po : Option Value → bS → Nat → Nat → Prop) (rc rs rk : Nat) (K : zK) (lv : List (Nat × Value)) (st : List Value) (σ : bS) (c n : Nat) : z_hd tL_isSo cl po rc rs rk K 85 lv st σ c n = z_st cl po rc rs rk K (.aload_n 0) [] 85 lv st σ c n := (rfl)
set_option maxRecDepth 100000 in
theorem hL_isSo_86 (cl : List zC) (po : Option Value → bS → Nat → Nat → Prop) (rc rs rk : Nat) (K : zK) (lv : List (Nat × Value)) (st : List Value) (σ : bS) (c n : Nat) : z_hd tL_isSo cl po rc rs rk K 86 lv st σ c n = z_st cl po rc rs rk K (.iload 6) [] 86 lv st σ c n := (rfl)
set_option maxRecDepth 100000 in
theorem hL_isSo_88 (cl : List zC) (po : Option Value → bS → Nat → Nat → Prop) (rc rs rk : Nat) (K : zK) (lv : List (Nat × Value)) (st : List Value) (σ : bS) (c n : Nat) : z_hd tL_isSo cl po rc rs rk K 88 lv st σ c n = z_st cl po rc rs rk K (.bipush 6) [] 88 lv st σ c n := (rfl)
set_option maxRecDepth 100000 in
theorem hL_isSo_90 (cl : List zC) (po : Option Value → bS → Nat → Nat → Prop) (rc rs rk : Nat) (K : zK) (lv : List (Nat × Value)) (st : List Value) (σ : bS) (c n : Nat) : z_hd tL_isSo cl po rc rs rk K 90 lv st σ c n = z_st cl po rc rs rk K (.invokevirtual 40) [] 90 lv st σ c n := (rfl)
set_option maxRecDepth 100000 in
theorem hL_isSo_93 (cl : List zC) (po : Option Value → bS → Nat → Nat → Prop) (rc rs rk : Nat) (K : zK) (lv : List (Nat × Value)) (st : List Value) (σ : bS) (c n : Nat) : z_hd tL_isSo cl po rc rs rk K 93 lv st σ c n = z_st cl po rc rs rk K (.ifCond .lt 16) [109] 93 lv st σ c n := (rfl)
set_option maxRecDepth 100000 in
theorem hL_isSo_96 (cl : List zC) (po : Option Value → bS → Nat → Nat → Prop) (rc rs rk : Nat) (K : zK) (lv : List (Nat × Value)) (st : List Value) (σ : bS) (c n : Nat) : z_hd tL_isSo cl po rc rs rk K 96 lv st σ c n = z_st cl po rc rs rk K (.aload_n 0) [] 96 lv st σ c n := (rfl)
set_option maxRecDepth 100000 in
theorem hL_isSo_97 (cl : List zC) (po : Option Value → bS → Nat → Nat → Prop) (rc rs rk : Nat) (K : zK) (lv : List (Nat × Value)) (st : List Value) (σ : bS) (c n : Nat) : z_hd tL_isSo cl po rc rs rk K 97 lv st σ c n = z_st cl po rc rs rk K (.iload 6) [] 97 lv st σ c n := (rfl)
set_option maxRecDepth 100000 in
theorem hL_isSo_99 (cl : List zC) (po : Option Value → bS → Nat → Nat → Prop) (rc rs rk : Nat) (K : zK) (lv : List (Nat × Value)) (st : List Value) (σ : bS) (c n : Nat) : z_hd tL_isSo cl po rc rs rk K 99 lv st σ c n = z_st cl po rc rs rk K (.bipush 6) [] 99 lv st σ c n := (rfl)
set_option maxRecDepth 100000 in
theorem hL_isSo_101 (cl : List zC) (po : Option Value → bS → Nat → Nat → Prop) (rc rs rk : Nat) (K : zK) (lv : List (Nat × Value)) (st : List Value) (σ : bS) (c n : Nat) : z_hd tL_isSo cl po rc rs rk K 101 lv st σ c n = z_st cl po rc rs rk K (.invokevirtual 40) [] 101 lv st σ c n := (rfl)
set_option maxRecDepth 100000 in
theorem hL_isSo_104 (cl : List zC) (po : Option Value → bS → Nat → Nat → Prop) (rc rs rk : Nat) (K : zK) (lv : List (Nat × Value)) (st : List Value) (σ : bS) (c n : Nat) : z_hd tL_isSo cl po rc rs rk K 104 lv st σ c n = z_st cl po rc rs rk K (.bipush 24) [] 104 lv st σ c n := (rfl)
set_option maxRecDepth 100000 in
theorem hL_isSo_106 (cl : List zC) (po : Option Value → bS → Nat → Nat → Prop) (rc rs rk : Nat) (K : zK) (lv : List (Nat × Value)) (st : List Value) (σ : bS) (c n : Nat) : z_hd tL_isSo cl po rc rs rk K 106 lv st σ c n = z_st cl po rc rs rk K (.if_icmp .le 5) [111] 106 lv st σ c n := (rfl)
set_option maxRecDepth 100000 in
theorem hL_isSo_109 (cl : List zC) (po : Option Value → bS → Nat → Nat → Prop) (rc rs rk : Nat) (K : zK) (lv : List (Nat × Value)) (st : List Value) (σ : bS) (c n : Nat) : z_hd tL_isSo cl po rc rs rk K 109 lv st σ c n = z_st cl po rc rs rk K (.iconst 0) [] 109 lv st σ c n := (rfl)
set_option maxRecDepth 100000 in
theorem hL_isSo_110 (cl : List zC) (po : Option Value → bS → Nat → Nat → Prop) (rc rs rk : Nat) (K : zK) (lv : List (Nat × Value)) (st : List Value) (σ : bS) (c n : Nat) : z_hd tL_isSo cl po rc rs rk K 110 lv st σ c n = z_st cl po rc rs rk K (.ireturn) [] 110 lv st σ c n := (rfl)
set_option maxRecDepth 100000 in
theorem hL_isSo_111 (cl : List zC) (po : Option Value → bS → Nat → Nat → Prop) (rc rs rk : Nat) (K : zK) (lv : List (Nat × Value)) (st : List Value) (σ : bS) (c n : Nat) : z_hd tL_isSo cl po rc rs rk K 111 lv st σ c n = z_st cl po rc rs rk K (.aload_n 2) [] 111 lv st σ c n := (rfl)
set_option maxRecDepth 100000 in
theorem hL_isSo_112 (cl : List zC) (po : Option Value → bS → Nat → Nat → Prop) (rc rs rk : Nat) (K : zK) (lv : List (Nat × Value)) (st : List Value) (σ : bS) (c n : Nat) : z_hd tL_isSo cl po rc rs rk K 112 lv st σ c n = z_st cl po rc rs rk K (.iload 7) [] 112 lv st σ c n := (rfl)
set_option maxRecDepth 100000 in
theorem hL_isSo_114 (cl : List zC) (po : Option Value → bS → Nat → Nat → Prop) (rc rs rk : Nat) (K : zK) (lv : List (Nat × Value)) (st : List Value) (σ : bS) (c n : Nat) : z_hd tL_isSo cl po rc rs rk K 114 lv st σ c n = z_st cl po rc rs rk K (.dup2) [] 114 lv st σ c n := (rfl)
set_option maxRecDepth 100000 in
theorem hL_isSo_115 (cl : List zC) (po : Option Value → bS → Nat → Nat → Prop) (rc rs rk : Nat) (K : zK) (lv : List (Nat × Value)) (st : List Value) (σ : bS) (c n : Nat) : z_hd tL_isSo cl po rc rs rk K 115 lv st σ c n = z_st cl po rc rs rk K (.iaload) [] 115 lv st σ c n := (rfl)
set_option maxRecDepth 100000 in
theorem hL_isSo_116 (cl : List zC) (po : Option Value → bS → Nat → Nat → Prop) (rc rs rk : Nat) (K : zK) (lv : List (Nat × Value)) (st : List Value) (σ : bS) (c n : Nat) : z_hd tL_isSo cl po rc rs rk K 116 lv st σ c n = z_st cl po rc rs rk K (.iconst 1) [] 116 lv st σ c n := (rfl)
set_option maxRecDepth 100000 in
theorem hL_isSo_117 (cl : List zC) (po : Option Value → bS → Nat → Nat → Prop) (rc rs rk : Nat) (K : zK) (lv : List (Nat × Value)) (st : List Value) (σ : bS) (c n : Nat) : z_hd tL_isSo cl po rc rs rk K 117 lv st σ c n = z_st cl po rc rs rk K (.iadd) [] 117 lv st σ c n := (rfl)
set_option maxRecDepth 100000 in
theorem hL_isSo_118 (cl : List zC) (po : Option Value → bS → Nat → Nat → Prop) (rc rs rk : Nat) (K : zK) (lv : List (Nat × Value)) (st : List Value) (σ : bS) (c n : Nat) : z_hd tL_isSo cl po rc rs rk K 118 lv st σ c n = z_st cl po rc rs rk K (.iastore) [] 118 lv st σ c n := (rfl)
set_option maxRecDepth 100000 in
theorem hL_isSo_119 (cl : List zC) (po : Option Value → bS → Nat → Nat → Prop) (rc rs rk : Nat) (K : zK) (lv : List (Nat × Value)) (st : List Value) (σ : bS) (c n : Nat) : z_hd tL_isSo cl po rc rs rk K 119 lv st σ c n = z_st cl po rc rs rk K (.iload 8) [] 119 lv st σ c n := (rfl)
set_option maxRecDepth 100000 in
theorem hL_isSo_121 (cl : List zC) (po : Option Value → bS → Nat → Nat → Prop) (rc rs rk : Nat) (K : zK) (lv : List (Nat × Value)) (st : List Value) (σ : bS) (c n : Nat) : z_hd tL_isSo cl po rc rs rk K 121 lv st σ c n = z_st cl po rc rs rk K (.ifCond .lt 17) [138] 121 lv st σ c n := (rfl)
set_option maxRecDepth 100000 in
theorem hL_isSo_124 (cl : List zC) (po : Option Value → bS → Nat → Nat → Prop) (rc rs rk : Nat) (K : zK) (lv : List (Nat × Value)) (st : List Value) (σ : bS) (c n : Nat) : z_hd tL_isSo cl po rc rs rk K 124 lv st σ c n = z_st cl po rc rs rk K (.aload_n 3) [] 124 lv st σ c n := (rfl)
set_option maxRecDepth 100000 in
theorem hL_isSo_125 (cl : List zC) (po : Option Value → bS → Nat → Nat → Prop) (rc rs rk : Nat) (K : zK) (lv : List (Nat × Value)) (st : List Value) (σ : bS) (c n : Nat) : z_hd tL_isSo cl po rc rs rk K 125 lv st σ c n = z_st cl po rc rs rk K (.bipush 11) [] 125 lv st σ c n := (rfl)
set_option maxRecDepth 100000 in
theorem hL_isSo_127 (cl : List zC) (po : Option Value → bS → Nat → Nat → Prop) (rc rs rk : Nat) (K : zK) (lv : List (Nat × Value)) (st : List Value) (σ : bS) (c n : Nat) : z_hd tL_isSo cl po rc rs rk K 127 lv st σ c n = z_st cl po rc rs rk K (.iload 8) [] 127 lv st σ c n := (rfl)
set_option maxRecDepth 100000 in
theorem hL_isSo_129 (cl : List zC) (po : Option Value → bS → Nat → Nat → Prop) (rc rs rk : Nat) (K : zK) (lv : List (Nat × Value)) (st : List Value) (σ : bS) (c n : Nat) : z_hd tL_isSo cl po rc rs rk K 129 lv st σ c n = z_st cl po rc rs rk K (.imul) [] 129 lv st σ c n := (rfl)
set_option maxRecDepth 100000 in
theorem hL_isSo_130 (cl : List zC) (po : Option Value → bS → Nat → Nat → Prop) (rc rs rk : Nat) (K : zK) (lv : List (Nat × Value)) (st : List Value) (σ : bS) (c n : Nat) : z_hd tL_isSo cl po rc rs rk K 130 lv st σ c n = z_st cl po rc rs rk K (.iload 7) [] 130 lv st σ c n := (rfl)
set_option maxRecDepth 100000 in
theorem hL_isSo_132 (cl : List zC) (po : Option Value → bS → Nat → Nat → Prop) (rc rs rk : Nat) (K : zK) (lv : List (Nat × Value)) (st : List Value) (σ : bS) (c n : Nat) : z_hd tL_isSo cl po rc rs rk K 132 lv st σ c n = z_st cl po rc rs rk K (.iadd) [] 132 lv st σ c n := (rfl)
set_option maxRecDepth 100000 in
theorem hL_isSo_133 (cl : List zC) (po : Option Value → bS → Nat → Nat → Prop) (rc rs rk : Nat) (K : zK) (lv : List (Nat × Value)) (st : List Value) (σ : bS) (c n : Nat) : z_hd tL_isSo cl po rc rs rk K 133 lv st σ c n = z_st cl po rc rs rk K (.dup2) [] 133 lv st σ c n := (rfl)
set_option maxRecDepth 100000 in
theorem hL_isSo_134 (cl : List zC) (po : Option Value → bS → Nat → Nat → Prop) (rc rs rk : Nat) (K : zK) (lv : List (Nat × Value)) (st : List Value) (σ : bS) (c n : Nat) : z_hd tL_isSo cl po rc rs rk K 134 lv st σ c n = z_st cl po rc rs rk K (.iaload) [] 134 lv st σ c n := (rfl)
set_option maxRecDepth 100000 in
theorem hL_isSo_135 (cl : List zC) (po : Option Value → bS → Nat → Nat → Prop) (rc rs rk : Nat) (K : zK) (lv : List (Nat × Value)) (st : List Value) (σ : bS) (c n : Nat) : z_hd tL_isSo cl po rc rs rk K 135 lv st σ c n = z_st cl po rc rs rk K (.iconst 1) [] 135 lv st σ c n := (rfl)
set_option maxRecDepth 100000 in
theorem hL_isSo_136 (cl : List zC) (po : Option Value → bS → Nat → Nat → Prop) (rc rs rk : Nat) (K : zK) (lv : List (Nat × Value)) (st : List Value) (σ : bS) (c n : Nat) : z_hd tL_isSo cl po rc rs rk K 136 lv st σ c n = z_st cl po rc rs rk K (.iadd) [] 136 lv st σ c n := (rfl)
set_option maxRecDepth 100000 in
theorem hL_isSo_137 (cl : List zC) (po : Option Value → bS → Nat → Nat → Prop) (rc rs rk : Nat) (K : zK) (lv : List (Nat × Value)) (st : List Value) (σ : bS) (c n : Nat) : z_hd tL_isSo cl po rc rs rk K 137 lv st σ c n = z_st cl po rc rs rk K (.iastore) [] 137 lv st σ c n := (rfl)
set_option maxRecDepth 100000 in
theorem hL_isSo_138 (cl : List zC) (po : Option Value → bS → Nat → Nat → Prop) (rc rs rk : Nat) (K : zK) (lv : List (Nat × Value)) (st : List Value) (σ : bS) (c n : Nat) : z_hd tL_isSo cl po rc rs rk K 138 lv st σ c n = z_st cl po rc rs rk K (.iload 4) [] 138 lv st σ c n := (rfl)
set_option maxRecDepth 100000 in
theorem hL_isSo_140 (cl : List zC) (po : Option Value → bS → Nat → Nat → Prop) (rc rs rk : Nat) (K : zK) (lv : List (Nat × Value)) (st : List Value) (σ : bS) (c n : Nat) : z_hd tL_isSo cl po rc rs rk K 140 lv st σ c n = z_st cl po rc rs rk K (.aload_n 0) [] 140 lv st σ c n := (rfl)
set_option maxRecDepth 100000 in
theorem hL_isSo_141 (cl : List zC) (po : Option Value → bS → Nat → Nat → Prop) (rc rs rk : Nat) (K : zK) (lv : List (Nat × Value)) (st : List Value) (σ : bS) (c n : Nat) : z_hd tL_isSo cl po rc rs rk K 141 lv st σ c n = z_st cl po rc rs rk K (.iload 6) [] 141 lv st σ c n := (rfl)
set_option maxRecDepth 100000 in
theorem hL_isSo_143 (cl : List zC) (po : Option Value → bS → Nat → Nat → Prop) (rc rs rk : Nat) (K : zK) (lv : List (Nat × Value)) (st : List Value) (σ : bS) (c n : Nat) : z_hd tL_isSo cl po rc rs rk K 143 lv st σ c n = z_st cl po rc rs rk K (.bipush 7) [] 143 lv st σ c n := (rfl)
set_option maxRecDepth 100000 in
theorem hL_isSo_145 (cl : List zC) (po : Option Value → bS → Nat → Nat → Prop) (rc rs rk : Nat) (K : zK) (lv : List (Nat × Value)) (st : List Value) (σ : bS) (c n : Nat) : z_hd tL_isSo cl po rc rs rk K 145 lv st σ c n = z_st cl po rc rs rk K (.invokevirtual 40) [] 145 lv st σ c n := (rfl)
set_option maxRecDepth 100000 in
theorem hL_isSo_148 (cl : List zC) (po : Option Value → bS → Nat → Nat → Prop) (rc rs rk : Nat) (K : zK) (lv : List (Nat × Value)) (st : List Value) (σ : bS) (c n : Nat) : z_hd tL_isSo cl po rc rs rk K 148 lv st σ c n = z_st cl po rc rs rk K (.ifCond .ge 7) [155] 148 lv st σ c n := (rfl)
set_option maxRecDepth 100000 in
theorem hL_isSo_151 (cl : List zC) (po : Option Value → bS → Nat → Nat → Prop) (rc rs rk : Nat) (K : zK) (lv : List (Nat × Value)) (st : List Value) (σ : bS) (c n : Nat) : z_hd tL_isSo cl po rc rs rk K 151 lv st σ c n = z_st cl po rc rs rk K (.iconst 1) [] 151 lv st σ c n := (rfl)
set_option maxRecDepth 100000 in
theorem hL_isSo_152 (cl : List zC) (po : Option Value → bS → Nat → Nat → Prop) (rc rs rk : Nat) (K : zK) (lv : List (Nat × Value)) (st : List Value) (σ : bS) (c n : Nat) : z_hd tL_isSo cl po rc rs rk K 152 lv st σ c n = z_st cl po rc rs rk K (.goto 4) [156] 152 lv st σ c n := (rfl)
set_option maxRecDepth 100000 in
theorem hL_isSo_155 (cl : List zC) (po : Option Value → bS → Nat → Nat → Prop) (rc rs rk : Nat) (K : zK) (lv : List (Nat × Value)) (st : List Value) (σ : bS) (c n : Nat) : z_hd tL_isSo cl po rc rs rk K 155 lv st σ c n = z_st cl po rc rs rk K (.iconst 0) [] 155 lv st σ c n := (rfl)
set_option maxRecDepth 100000 in
theorem hL_isSo_156 (cl : List zC) (po : Option Value → bS → Nat → Nat → Prop) (rc rs rk : Nat) (K : zK) (lv : List (Nat × Value)) (st : List Value) (σ : bS) (c n : Nat) : z_hd tL_isSo cl po rc rs rk K 156 lv st σ c n = z_st cl po rc rs rk K (.iadd) [] 156 lv st σ c n := (rfl)
set_option maxRecDepth 100000 in
theorem hL_isSo_157 (cl : List zC) (po : Option Value → bS → Nat → Nat → Prop) (rc rs rk : Nat) (K : zK) (lv : List (Nat × Value)) (st : List Value) (σ : bS) (c n : Nat) : z_hd tL_isSo cl po rc rs rk K 157 lv st σ c n = z_st cl po rc rs rk K (.istore 4) [] 157 lv st σ c n := (rfl)
set_option maxRecDepth 100000 in
theorem hL_isSo_159 (cl : List zC) (po : Option Value → bS → Nat → Nat → Prop) (rc rs rk : Nat) (K : zK) (lv : List (Nat × Value)) (st : List Value) (σ : bS) (c n : Nat) : z_hd tL_isSo cl po rc rs rk K 159 lv st σ c n = z_st cl po rc rs rk K (.iload 5) [] 159 lv st σ c n := (rfl)
set_option maxRecDepth 100000 in
theorem hL_isSo_161 (cl : List zC) (po : Option Value → bS → Nat → Nat → Prop) (rc rs rk : Nat) (K : zK) (lv : List (Nat × Value)) (st : List Value) (σ : bS) (c n : Nat) : z_hd tL_isSo cl po rc rs rk K 161 lv st σ c n = z_st cl po rc rs rk K (.iload 7) [] 161 lv st σ c n := (rfl)
set_option maxRecDepth 100000 in
theorem hL_isSo_163 (cl : List zC) (po : Option Value → bS → Nat → Nat → Prop) (rc rs rk : Nat) (K : zK) (lv : List (Nat × Value)) (st : List Value) (σ : bS) (c n : Nat) : z_hd tL_isSo cl po rc rs rk K 163 lv st σ c n = z_st cl po rc rs rk K (.bipush 9) [] 163 lv st σ c n := (rfl)
set_option maxRecDepth 100000 in
theorem hL_isSo_165 (cl : List zC) (po : Option Value → bS → Nat → Nat → Prop) (rc rs rk : Nat) (K : zK) (lv : List (Nat × Value)) (st : List Value) (σ : bS) (c n : Nat) : z_hd tL_isSo cl po rc rs rk K 165 lv st σ c n = z_st cl po rc rs rk K (.if_icmp .ge 14) [179] 165 lv st σ c n := (rfl)
set_option maxRecDepth 100000 in
theorem hL_isSo_168 (cl : List zC) (po : Option Value → bS → Nat → Nat → Prop) (rc rs rk : Nat) (K : zK) (lv : List (Nat × Value)) (st : List Value) (σ : bS) (c n : Nat) : z_hd tL_isSo cl po rc rs rk K 168 lv st σ c n = z_st cl po rc rs rk K (.aload_n 0) [] 168 lv st σ c n := (rfl)
set_option maxRecDepth 100000 in
theorem hL_isSo_169 (cl : List zC) (po : Option Value → bS → Nat → Nat → Prop) (rc rs rk : Nat) (K : zK) (lv : List (Nat × Value)) (st : List Value) (σ : bS) (c n : Nat) : z_hd tL_isSo cl po rc rs rk K 169 lv st σ c n = z_st cl po rc rs rk K (.iload 6) [] 169 lv st σ c n := (rfl)
set_option maxRecDepth 100000 in
theorem hL_isSo_171 (cl : List zC) (po : Option Value → bS → Nat → Nat → Prop) (rc rs rk : Nat) (K : zK) (lv : List (Nat × Value)) (st : List Value) (σ : bS) (c n : Nat) : z_hd tL_isSo cl po rc rs rk K 171 lv st σ c n = z_st cl po rc rs rk K (.bipush 6) [] 171 lv st σ c n := (rfl)
set_option maxRecDepth 100000 in
theorem hL_isSo_173 (cl : List zC) (po : Option Value → bS → Nat → Nat → Prop) (rc rs rk : Nat) (K : zK) (lv : List (Nat × Value)) (st : List Value) (σ : bS) (c n : Nat) : z_hd tL_isSo cl po rc rs rk K 173 lv st σ c n = z_st cl po rc rs rk K (.invokevirtual 40) [] 173 lv st σ c n := (rfl)
set_option maxRecDepth 100000 in
theorem hL_isSo_176 (cl : List zC) (po : Option Value → bS → Nat → Nat → Prop) (rc rs rk : Nat) (K : zK) (lv : List (Nat × Value)) (st : List Value) (σ : bS) (c n : Nat) : z_hd tL_isSo cl po rc rs rk K 176 lv st σ c n = z_st cl po rc rs rk K (.goto 4) [180] 176 lv st σ c n := (rfl)
set_option maxRecDepth 100000 in
theorem hL_isSo_179 (cl : List zC) (po : Option Value → bS → Nat → Nat → Prop) (rc rs rk : Nat) (K : zK) (lv : List (Nat × Value)) (st : List Value) (σ : bS) (c n : Nat) : z_hd tL_isSo cl po rc rs rk K 179 lv st σ c n = z_st cl po rc rs rk K (.iconst 0) [] 179 lv st σ c n := (rfl)
set_option maxRecDepth 100000 in
theorem hL_isSo_180 (cl : List zC) (po : Option Value → bS → Nat → Nat → Prop) (rc rs rk : Nat) (K : zK) (lv : List (Nat × Value)) (st : List Value) (σ : bS) (c n : Nat) : z_hd tL_isSo cl po rc rs rk K 180 lv st σ c n = z_st cl po rc rs rk K (.iadd) [] 180 lv st σ c n := (rfl)
set_option maxRecDepth 100000 in
theorem hL_isSo_181 (cl : List zC) (po : Option Value → bS → Nat → Nat → Prop) (rc rs rk : Nat) (K : zK) (lv : List (Nat × Value)) (st : List Value) (σ : bS) (c n : Nat) : z_hd tL_isSo cl po rc rs rk K 181 lv st σ c n = z_st cl po rc rs rk K (.istore 5) [] 181 lv st σ c n := (rfl)
set_option maxRecDepth 100000 in
theorem hL_isSo_183 (cl : List zC) (po : Option Value → bS → Nat → Nat → Prop) (rc rs rk : Nat) (K : zK) (lv : List (Nat × Value)) (st : List Value) (σ : bS) (c n : Nat) : z_hd tL_isSo cl po rc rs rk K 183 lv st σ c n = z_st cl po rc rs rk K (.aload_n 0) [] 183 lv st σ c n := (rfl)
set_option maxRecDepth 100000 in
theorem hL_isSo_184 (cl : List zC) (po : Option Value → bS → Nat → Nat → Prop) (rc rs rk : Nat) (K : zK) (lv : List (Nat × Value)) (st : List Value) (σ : bS) (c n : Nat) : z_hd tL_isSo cl po rc rs rk K 184 lv st σ c n = z_st cl po rc rs rk K (.iload 6) [] 184 lv st σ c n := (rfl)
set_option maxRecDepth 100000 in
theorem hL_isSo_186 (cl : List zC) (po : Option Value → bS → Nat → Nat → Prop) (rc rs rk : Nat) (K : zK) (lv : List (Nat × Value)) (st : List Value) (σ : bS) (c n : Nat) : z_hd tL_isSo cl po rc rs rk K 186 lv st σ c n = z_st cl po rc rs rk K (.iconst 0) [] 186 lv st σ c n := (rfl)
set_option maxRecDepth 100000 in
theorem hL_isSo_187 (cl : List zC) (po : Option Value → bS → Nat → Nat → Prop) (rc rs rk : Nat) (K : zK) (lv : List (Nat × Value)) (st : List Value) (σ : bS) (c n : Nat) : z_hd tL_isSo cl po rc rs rk K 187 lv st σ c n = z_st cl po rc rs rk K (.invokevirtual 107) [] 187 lv st σ c n := (rfl)
set_option maxRecDepth 100000 in
theorem hL_isSo_190 (cl : List zC) (po : Option Value → bS → Nat → Nat → Prop) (rc rs rk : Nat) (K : zK) (lv : List (Nat × Value)) (st : List Value) (σ : bS) (c n : Nat) : z_hd tL_isSo cl po rc rs rk K 190 lv st σ c n = z_st cl po rc rs rk K (.aload_n 0) [] 190 lv st σ c n := (rfl)
set_option maxRecDepth 100000 in
theorem hL_isSo_191 (cl : List zC) (po : Option Value → bS → Nat → Nat → Prop) (rc rs rk : Nat) (K : zK) (lv : List (Nat × Value)) (st : List Value) (σ : bS) (c n : Nat) : z_hd tL_isSo cl po rc rs rk K 191 lv st σ c n = z_st cl po rc rs rk K (.iload 6) [] 191 lv st σ c n := (rfl)
set_option maxRecDepth 100000 in
theorem hL_isSo_193 (cl : List zC) (po : Option Value → bS → Nat → Nat → Prop) (rc rs rk : Nat) (K : zK) (lv : List (Nat × Value)) (st : List Value) (σ : bS) (c n : Nat) : z_hd tL_isSo cl po rc rs rk K 193 lv st σ c n = z_st cl po rc rs rk K (.iconst 3) [] 193 lv st σ c n := (rfl)
set_option maxRecDepth 100000 in
theorem hL_isSo_194 (cl : List zC) (po : Option Value → bS → Nat → Nat → Prop) (rc rs rk : Nat) (K : zK) (lv : List (Nat × Value)) (st : List Value) (σ : bS) (c n : Nat) : z_hd tL_isSo cl po rc rs rk K 194 lv st σ c n = z_st cl po rc rs rk K (.invokevirtual 40) [] 194 lv st σ c n := (rfl)
set_option maxRecDepth 100000 in
theorem hL_isSo_197 (cl : List zC) (po : Option Value → bS → Nat → Nat → Prop) (rc rs rk : Nat) (K : zK) (lv : List (Nat × Value)) (st : List Value) (σ : bS) (c n : Nat) : z_hd tL_isSo cl po rc rs rk K 197 lv st σ c n = z_st cl po rc rs rk K (.aload_n 0) [] 197 lv st σ c n := (rfl)
set_option maxRecDepth 100000 in
theorem hL_isSo_198 (cl : List zC) (po : Option Value → bS → Nat → Nat → Prop) (rc rs rk : Nat) (K : zK) (lv : List (Nat × Value)) (st : List Value) (σ : bS) (c n : Nat) : z_hd tL_isSo cl po rc rs rk K 198 lv st σ c n = z_st cl po rc rs rk K (.iload 6) [] 198 lv st σ c n := (rfl)
set_option maxRecDepth 100000 in
theorem hL_isSo_200 (cl : List zC) (po : Option Value → bS → Nat → Nat → Prop) (rc rs rk : Nat) (K : zK) (lv : List (Nat × Value)) (st : List Value) (σ : bS) (c n : Nat) : z_hd tL_isSo cl po rc rs rk K 200 lv st σ c n = z_st cl po rc rs rk K (.iconst 4) [] 200 lv st σ c n := (rfl)
set_option maxRecDepth 100000 in
theorem hL_isSo_201 (cl : List zC) (po : Option Value → bS → Nat → Nat → Prop) (rc rs rk : Nat) (K : zK) (lv : List (Nat × Value)) (st : List Value) (σ : bS) (c n : Nat) : z_hd tL_isSo cl po rc rs rk K 201 lv st σ c n = z_st cl po rc rs rk K (.invokevirtual 40) [] 201 lv st σ c n := (rfl)
set_option maxRecDepth 100000 in
theorem hL_isSo_204 (cl : List zC) (po : Option Value → bS → Nat → Nat → Prop) (rc rs rk : Nat) (K : zK) (lv : List (Nat × Value)) (st : List Value) (σ : bS) (c n : Nat) : z_hd tL_isSo cl po rc rs rk K 204 lv st σ c n = z_st cl po rc rs rk K (.imul) [] 204 lv st σ c n := (rfl)
set_option maxRecDepth 100000 in
theorem hL_isSo_205 (cl : List zC) (po : Option Value → bS → Nat → Nat → Prop) (rc rs rk : Nat) (K : zK) (lv : List (Nat × Value)) (st : List Value) (σ : bS) (c n : Nat) : z_hd tL_isSo cl po rc rs rk K 205 lv st σ c n = z_st cl po rc rs rk K (.if_icmp .ne 20) [225] 205 lv st σ c n := (rfl)
set_option maxRecDepth 100000 in
theorem hL_isSo_208 (cl : List zC) (po : Option Value → bS → Nat → Nat → Prop) (rc rs rk : Nat) (K : zK) (lv : List (Nat × Value)) (st : List Value) (σ : bS) (c n : Nat) : z_hd tL_isSo cl po rc rs rk K 208 lv st σ c n = z_st cl po rc rs rk K (.aload_n 0) [] 208 lv st σ c n := (rfl)
set_option maxRecDepth 100000 in
theorem hL_isSo_209 (cl : List zC) (po : Option Value → bS → Nat → Nat → Prop) (rc rs rk : Nat) (K : zK) (lv : List (Nat × Value)) (st : List Value) (σ : bS) (c n : Nat) : z_hd tL_isSo cl po rc rs rk K 209 lv st σ c n = z_st cl po rc rs rk K (.iload 6) [] 209 lv st σ c n := (rfl)
set_option maxRecDepth 100000 in
theorem hL_isSo_211 (cl : List zC) (po : Option Value → bS → Nat → Nat → Prop) (rc rs rk : Nat) (K : zK) (lv : List (Nat × Value)) (st : List Value) (σ : bS) (c n : Nat) : z_hd tL_isSo cl po rc rs rk K 211 lv st σ c n = z_st cl po rc rs rk K (.iconst 2) [] 211 lv st σ c n := (rfl)
set_option maxRecDepth 100000 in
theorem hL_isSo_212 (cl : List zC) (po : Option Value → bS → Nat → Nat → Prop) (rc rs rk : Nat) (K : zK) (lv : List (Nat × Value)) (st : List Value) (σ : bS) (c n : Nat) : z_hd tL_isSo cl po rc rs rk K 212 lv st σ c n = z_st cl po rc rs rk K (.invokevirtual 107) [] 212 lv st σ c n := (rfl)
set_option maxRecDepth 100000 in
theorem hL_isSo_215 (cl : List zC) (po : Option Value → bS → Nat → Nat → Prop) (rc rs rk : Nat) (K : zK) (lv : List (Nat × Value)) (st : List Value) (σ : bS) (c n : Nat) : z_hd tL_isSo cl po rc rs rk K 215 lv st σ c n = z_st cl po rc rs rk K (.aload_n 0) [] 215 lv st σ c n := (rfl)
set_option maxRecDepth 100000 in
theorem hL_isSo_216 (cl : List zC) (po : Option Value → bS → Nat → Nat → Prop) (rc rs rk : Nat) (K : zK) (lv : List (Nat × Value)) (st : List Value) (σ : bS) (c n : Nat) : z_hd tL_isSo cl po rc rs rk K 216 lv st σ c n = z_st cl po rc rs rk K (.iload 6) [] 216 lv st σ c n := (rfl)
set_option maxRecDepth 100000 in
theorem hL_isSo_218 (cl : List zC) (po : Option Value → bS → Nat → Nat → Prop) (rc rs rk : Nat) (K : zK) (lv : List (Nat × Value)) (st : List Value) (σ : bS) (c n : Nat) : z_hd tL_isSo cl po rc rs rk K 218 lv st σ c n = z_st cl po rc rs rk K (.iconst 0) [] 218 lv st σ c n := (rfl)
set_option maxRecDepth 100000 in
theorem hL_isSo_219 (cl : List zC) (po : Option Value → bS → Nat → Nat → Prop) (rc rs rk : Nat) (K : zK) (lv : List (Nat × Value)) (st : List Value) (σ : bS) (c n : Nat) : z_hd tL_isSo cl po rc rs rk K 219 lv st σ c n = z_st cl po rc rs rk K (.invokevirtual 107) [] 219 lv st σ c n := (rfl)
set_option maxRecDepth 100000 in
theorem hL_isSo_222 (cl : List zC) (po : Option Value → bS → Nat → Nat → Prop) (rc rs rk : Nat) (K : zK) (lv : List (Nat × Value)) (st : List Value) (σ : bS) (c n : Nat) : z_hd tL_isSo cl po rc rs rk K 222 lv st σ c n = z_st cl po rc rs rk K (.if_icmp .le 5) [227] 222 lv st σ c n := (rfl)
set_option maxRecDepth 100000 in
theorem hL_isSo_225 (cl : List zC) (po : Option Value → bS → Nat → Nat → Prop) (rc rs rk : Nat) (K : zK) (lv : List (Nat × Value)) (st : List Value) (σ : bS) (c n : Nat) : z_hd tL_isSo cl po rc rs rk K 225 lv st σ c n = z_st cl po rc rs rk K (.iconst 0) [] 225 lv st σ c n := (rfl)
set_option maxRecDepth 100000 in
theorem hL_isSo_226 (cl : List zC) (po : Option Value → bS → Nat → Nat → Prop) (rc rs rk : Nat) (K : zK) (lv : List (Nat × Value)) (st : List Value) (σ : bS) (c n : Nat) : z_hd tL_isSo cl po rc rs rk K 226 lv st σ c n = z_st cl po rc rs rk K (.ireturn) [] 226 lv st σ c n := (rfl)
set_option maxRecDepth 100000 in
theorem hL_isSo_227 (cl : List zC) (po : Option Value → bS → Nat → Nat → Prop) (rc rs rk : Nat) (K : zK) (lv : List (Nat × Value)) (st : List Value) (σ : bS) (c n : Nat) : z_hd tL_isSo cl po rc rs rk K 227 lv st σ c n = z_st cl po rc rs rk K (.iinc 6 1) [] 227 lv st σ c n := (rfl)
set_option maxRecDepth 100000 in
theorem hL_isSo_230 (cl : List zC) (po : Option Value → bS → Nat → Nat → Prop) (rc rs rk : Nat) (K : zK) (lv : List (Nat × Value)) (st : List Value) (σ : bS) (c n : Nat) : z_hd tL_isSo cl po rc rs rk K 230 lv st σ c n = z_st cl po rc rs rk K (.goto (-211)) [19] 230 lv st σ c n := (rfl)
set_option maxRecDepth 100000 in
theorem hL_isSo_233 (cl : List zC) (po : Option Value → bS → Nat → Nat → Prop) (rc rs rk : Nat) (K : zK) (lv : List (Nat × Value)) (st : List Value) (σ : bS) (c n : Nat) : z_hd tL_isSo cl po rc rs rk K 233 lv st σ c n = z_st cl po rc rs rk K (.iconst 0) [] 233 lv st σ c n := (rfl)
set_option maxRecDepth 100000 in
theorem hL_isSo_234 (cl : List zC) (po : Option Value → bS → Nat → Nat → Prop) (rc rs rk : Nat) (K : zK) (lv : List (Nat × Value)) (st : List Value) (σ : bS) (c n : Nat) : z_hd tL_isSo cl po rc rs rk K 234 lv st σ c n = z_st cl po rc rs rk K (.istore 6) [] 234 lv st σ c n := (rfl)
set_option maxRecDepth 100000 in
theorem hL_isSo_236 (cl : List zC) (po : Option Value → bS → Nat → Nat → Prop) (rc rs rk : Nat) (K : zK) (lv : List (Nat × Value)) (st : List Value) (σ : bS) (c n : Nat) : z_hd tL_isSo cl po rc rs rk K 236 lv st σ c n = z_st cl po rc rs rk K (.iload 6) [] 236 lv st σ c n := (rfl)
set_option maxRecDepth 100000 in
theorem hL_isSo_238 (cl : List zC) (po : Option Value → bS → Nat → Nat → Prop) (rc rs rk : Nat) (K : zK) (lv : List (Nat × Value)) (st : List Value) (σ : bS) (c n : Nat) : z_hd tL_isSo cl po rc rs rk K 238 lv st σ c n = z_st cl po rc rs rk K (.bipush 11) [] 238 lv st σ c n := (rfl)
set_option maxRecDepth 100000 in
theorem hL_isSo_240 (cl : List zC) (po : Option Value → bS → Nat → Nat → Prop) (rc rs rk : Nat) (K : zK) (lv : List (Nat × Value)) (st : List Value) (σ : bS) (c n : Nat) : z_hd tL_isSo cl po rc rs rk K 240 lv st σ c n = z_st cl po rc rs rk K (.if_icmp .ge 26) [266] 240 lv st σ c n := (rfl)
set_option maxRecDepth 100000 in
theorem hL_isSo_243 (cl : List zC) (po : Option Value → bS → Nat → Nat → Prop) (rc rs rk : Nat) (K : zK) (lv : List (Nat × Value)) (st : List Value) (σ : bS) (c n : Nat) : z_hd tL_isSo cl po rc rs rk K 243 lv st σ c n = z_st cl po rc rs rk K (.aload_n 0) [] 243 lv st σ c n := (rfl)
set_option maxRecDepth 100000 in
theorem hL_isSo_244 (cl : List zC) (po : Option Value → bS → Nat → Nat → Prop) (rc rs rk : Nat) (K : zK) (lv : List (Nat × Value)) (st : List Value) (σ : bS) (c n : Nat) : z_hd tL_isSo cl po rc rs rk K 244 lv st σ c n = z_st cl po rc rs rk K (.iconst 1) [] 244 lv st σ c n := (rfl)
set_option maxRecDepth 100000 in
theorem hL_isSo_245 (cl : List zC) (po : Option Value → bS → Nat → Nat → Prop) (rc rs rk : Nat) (K : zK) (lv : List (Nat × Value)) (st : List Value) (σ : bS) (c n : Nat) : z_hd tL_isSo cl po rc rs rk K 245 lv st σ c n = z_st cl po rc rs rk K (.iload 6) [] 245 lv st σ c n := (rfl)
set_option maxRecDepth 100000 in
theorem hL_isSo_247 (cl : List zC) (po : Option Value → bS → Nat → Nat → Prop) (rc rs rk : Nat) (K : zK) (lv : List (Nat × Value)) (st : List Value) (σ : bS) (c n : Nat) : z_hd tL_isSo cl po rc rs rk K 247 lv st σ c n = z_st cl po rc rs rk K (.iadd) [] 247 lv st σ c n := (rfl)
set_option maxRecDepth 100000 in
theorem hL_isSo_248 (cl : List zC) (po : Option Value → bS → Nat → Nat → Prop) (rc rs rk : Nat) (K : zK) (lv : List (Nat × Value)) (st : List Value) (σ : bS) (c n : Nat) : z_hd tL_isSo cl po rc rs rk K 248 lv st σ c n = z_st cl po rc rs rk K (.invokevirtual 28) [] 248 lv st σ c n := (rfl)
set_option maxRecDepth 100000 in
theorem hL_isSo_251 (cl : List zC) (po : Option Value → bS → Nat → Nat → Prop) (rc rs rk : Nat) (K : zK) (lv : List (Nat × Value)) (st : List Value) (σ : bS) (c n : Nat) : z_hd tL_isSo cl po rc rs rk K 251 lv st σ c n = z_st cl po rc rs rk K (.aload_n 2) [] 251 lv st σ c n := (rfl)
set_option maxRecDepth 100000 in
theorem hL_isSo_252 (cl : List zC) (po : Option Value → bS → Nat → Nat → Prop) (rc rs rk : Nat) (K : zK) (lv : List (Nat × Value)) (st : List Value) (σ : bS) (c n : Nat) : z_hd tL_isSo cl po rc rs rk K 252 lv st σ c n = z_st cl po rc rs rk K (.iload 6) [] 252 lv st σ c n := (rfl)
set_option maxRecDepth 100000 in
theorem hL_isSo_254 (cl : List zC) (po : Option Value → bS → Nat → Nat → Prop) (rc rs rk : Nat) (K : zK) (lv : List (Nat × Value)) (st : List Value) (σ : bS) (c n : Nat) : z_hd tL_isSo cl po rc rs rk K 254 lv st σ c n = z_st cl po rc rs rk K (.iaload) [] 254 lv st σ c n := (rfl)
set_option maxRecDepth 100000 in
theorem hL_isSo_255 (cl : List zC) (po : Option Value → bS → Nat → Nat → Prop) (rc rs rk : Nat) (K : zK) (lv : List (Nat × Value)) (st : List Value) (σ : bS) (c n : Nat) : z_hd tL_isSo cl po rc rs rk K 255 lv st σ c n = z_st cl po rc rs rk K (.if_icmp .eq 5) [260] 255 lv st σ c n := (rfl)
set_option maxRecDepth 100000 in
theorem hL_isSo_258 (cl : List zC) (po : Option Value → bS → Nat → Nat → Prop) (rc rs rk : Nat) (K : zK) (lv : List (Nat × Value)) (st : List Value) (σ : bS) (c n : Nat) : z_hd tL_isSo cl po rc rs rk K 258 lv st σ c n = z_st cl po rc rs rk K (.iconst 0) [] 258 lv st σ c n := (rfl)
set_option maxRecDepth 100000 in
theorem hL_isSo_259 (cl : List zC) (po : Option Value → bS → Nat → Nat → Prop) (rc rs rk : Nat) (K : zK) (lv : List (Nat × Value)) (st : List Value) (σ : bS) (c n : Nat) : z_hd tL_isSo cl po rc rs rk K 259 lv st σ c n = z_st cl po rc rs rk K (.ireturn) [] 259 lv st σ c n := (rfl)
set_option maxRecDepth 100000 in
theorem hL_isSo_260 (cl : List zC) (po : Option Value → bS → Nat → Nat → Prop) (rc rs rk : Nat) (K : zK) (lv : List (Nat × Value)) (st : List Value) (σ : bS) (c n : Nat) : z_hd tL_isSo cl po rc rs rk K 260 lv st σ c n = z_st cl po rc rs rk K (.iinc 6 1) [] 260 lv st σ c n := (rfl)
set_option maxRecDepth 100000 in
theorem hL_isSo_263 (cl : List zC) (po : Option Value → bS → Nat → Nat → Prop) (rc rs rk : Nat) (K : zK) (lv : List (Nat × Value)) (st : List Value) (σ : bS) (c n : Nat) : z_hd tL_isSo cl po rc rs rk K 263 lv st σ c n = z_st cl po rc rs rk K (.goto (-27)) [236] 263 lv st σ c n := (rfl)
set_option maxRecDepth 100000 in
theorem hL_isSo_266 (cl : List zC) (po : Option Value → bS → Nat → Nat → Prop) (rc rs rk : Nat) (K : zK) (lv : List (Nat × Value)) (st : List Value) (σ : bS) (c n : Nat) : z_hd tL_isSo cl po rc rs rk K 266 lv st σ c n = z_st cl po rc rs rk K (.iconst 0) [] 266 lv st σ c n := (rfl)
set_option maxRecDepth 100000 in
theorem hL_isSo_267 (cl : List zC) (po : Option Value → bS → Nat → Nat → Prop) (rc rs rk : Nat) (K : zK) (lv : List (Nat × Value)) (st : List Value) (σ : bS) (c n : Nat) : z_hd tL_isSo cl po rc rs rk K 267 lv st σ c n = z_st cl po rc rs rk K (.istore 6) [] 267 lv st σ c n := (rfl)
set_option maxRecDepth 100000 in
theorem hL_isSo_269 (cl : List zC) (po : Option Value → bS → Nat → Nat → Prop) (rc rs rk : Nat) (K : zK) (lv : List (Nat × Value)) (st : List Value) (σ : bS) (c n : Nat) : z_hd tL_isSo cl po rc rs rk K 269 lv st σ c n = z_st cl po rc rs rk K (.iconst 0) [] 269 lv st σ c n := (rfl)
set_option maxRecDepth 100000 in
theorem hL_isSo_270 (cl : List zC) (po : Option Value → bS → Nat → Nat → Prop) (rc rs rk : Nat) (K : zK) (lv : List (Nat × Value)) (st : List Value) (σ : bS) (c n : Nat) : z_hd tL_isSo cl po rc rs rk K 270 lv st σ c n = z_st cl po rc rs rk K (.istore 7) [] 270 lv st σ c n := (rfl)
set_option maxRecDepth 100000 in
theorem hL_isSo_272 (cl : List zC) (po : Option Value → bS → Nat → Nat → Prop) (rc rs rk : Nat) (K : zK) (lv : List (Nat × Value)) (st : List Value) (σ : bS) (c n : Nat) : z_hd tL_isSo cl po rc rs rk K 272 lv st σ c n = z_st cl po rc rs rk K (.iload 7) [] 272 lv st σ c n := (rfl)
set_option maxRecDepth 100000 in
theorem hL_isSo_274 (cl : List zC) (po : Option Value → bS → Nat → Nat → Prop) (rc rs rk : Nat) (K : zK) (lv : List (Nat × Value)) (st : List Value) (σ : bS) (c n : Nat) : z_hd tL_isSo cl po rc rs rk K 274 lv st σ c n = z_st cl po rc rs rk K (.bipush 6) [] 274 lv st σ c n := (rfl)
set_option maxRecDepth 100000 in
theorem hL_isSo_276 (cl : List zC) (po : Option Value → bS → Nat → Nat → Prop) (rc rs rk : Nat) (K : zK) (lv : List (Nat × Value)) (st : List Value) (σ : bS) (c n : Nat) : z_hd tL_isSo cl po rc rs rk K 276 lv st σ c n = z_st cl po rc rs rk K (.if_icmp .ge 297) [573] 276 lv st σ c n := (rfl)
set_option maxRecDepth 100000 in
theorem hL_isSo_279 (cl : List zC) (po : Option Value → bS → Nat → Nat → Prop) (rc rs rk : Nat) (K : zK) (lv : List (Nat × Value)) (st : List Value) (σ : bS) (c n : Nat) : z_hd tL_isSo cl po rc rs rk K 279 lv st σ c n = z_st cl po rc rs rk K (.bipush 6) [] 279 lv st σ c n := (rfl)
set_option maxRecDepth 100000 in
theorem hL_isSo_281 (cl : List zC) (po : Option Value → bS → Nat → Nat → Prop) (rc rs rk : Nat) (K : zK) (lv : List (Nat × Value)) (st : List Value) (σ : bS) (c n : Nat) : z_hd tL_isSo cl po rc rs rk K 281 lv st σ c n = z_st cl po rc rs rk K (.newarray .int) [] 281 lv st σ c n := (rfl)
set_option maxRecDepth 100000 in
theorem hL_isSo_283 (cl : List zC) (po : Option Value → bS → Nat → Nat → Prop) (rc rs rk : Nat) (K : zK) (lv : List (Nat × Value)) (st : List Value) (σ : bS) (c n : Nat) : z_hd tL_isSo cl po rc rs rk K 283 lv st σ c n = z_st cl po rc rs rk K (.dup) [] 283 lv st σ c n := (rfl)
set_option maxRecDepth 100000 in
theorem hL_isSo_284 (cl : List zC) (po : Option Value → bS → Nat → Nat → Prop) (rc rs rk : Nat) (K : zK) (lv : List (Nat × Value)) (st : List Value) (σ : bS) (c n : Nat) : z_hd tL_isSo cl po rc rs rk K 284 lv st σ c n = z_st cl po rc rs rk K (.iconst 0) [] 284 lv st σ c n := (rfl)
set_option maxRecDepth 100000 in
theorem hL_isSo_285 (cl : List zC) (po : Option Value → bS → Nat → Nat → Prop) (rc rs rk : Nat) (K : zK) (lv : List (Nat × Value)) (st : List Value) (σ : bS) (c n : Nat) : z_hd tL_isSo cl po rc rs rk K 285 lv st σ c n = z_st cl po rc rs rk K (.aload_n 3) [] 285 lv st σ c n := (rfl)
set_option maxRecDepth 100000 in
theorem hL_isSo_286 (cl : List zC) (po : Option Value → bS → Nat → Nat → Prop) (rc rs rk : Nat) (K : zK) (lv : List (Nat × Value)) (st : List Value) (σ : bS) (c n : Nat) : z_hd tL_isSo cl po rc rs rk K 286 lv st σ c n = z_st cl po rc rs rk K (.bipush 11) [] 286 lv st σ c n := (rfl)
set_option maxRecDepth 100000 in
theorem hL_isSo_288 (cl : List zC) (po : Option Value → bS → Nat → Nat → Prop) (rc rs rk : Nat) (K : zK) (lv : List (Nat × Value)) (st : List Value) (σ : bS) (c n : Nat) : z_hd tL_isSo cl po rc rs rk K 288 lv st σ c n = z_st cl po rc rs rk K (.iload 7) [] 288 lv st σ c n := (rfl)
set_option maxRecDepth 100000 in
theorem hL_isSo_290 (cl : List zC) (po : Option Value → bS → Nat → Nat → Prop) (rc rs rk : Nat) (K : zK) (lv : List (Nat × Value)) (st : List Value) (σ : bS) (c n : Nat) : z_hd tL_isSo cl po rc rs rk K 290 lv st σ c n = z_st cl po rc rs rk K (.imul) [] 290 lv st σ c n := (rfl)
set_option maxRecDepth 100000 in
theorem hL_isSo_291 (cl : List zC) (po : Option Value → bS → Nat → Nat → Prop) (rc rs rk : Nat) (K : zK) (lv : List (Nat × Value)) (st : List Value) (σ : bS) (c n : Nat) : z_hd tL_isSo cl po rc rs rk K 291 lv st σ c n = z_st cl po rc rs rk K (.iconst 1) [] 291 lv st σ c n := (rfl)
set_option maxRecDepth 100000 in
theorem hL_isSo_292 (cl : List zC) (po : Option Value → bS → Nat → Nat → Prop) (rc rs rk : Nat) (K : zK) (lv : List (Nat × Value)) (st : List Value) (σ : bS) (c n : Nat) : z_hd tL_isSo cl po rc rs rk K 292 lv st σ c n = z_st cl po rc rs rk K (.iadd) [] 292 lv st σ c n := (rfl)
set_option maxRecDepth 100000 in
theorem hL_isSo_293 (cl : List zC) (po : Option Value → bS → Nat → Nat → Prop) (rc rs rk : Nat) (K : zK) (lv : List (Nat × Value)) (st : List Value) (σ : bS) (c n : Nat) : z_hd tL_isSo cl po rc rs rk K 293 lv st σ c n = z_st cl po rc rs rk K (.iaload) [] 293 lv st σ c n := (rfl)
set_option maxRecDepth 100000 in
theorem hL_isSo_294 (cl : List zC) (po : Option Value → bS → Nat → Nat → Prop) (rc rs rk : Nat) (K : zK) (lv : List (Nat × Value)) (st : List Value) (σ : bS) (c n : Nat) : z_hd tL_isSo cl po rc rs rk K 294 lv st σ c n = z_st cl po rc rs rk K (.iastore) [] 294 lv st σ c n := (rfl)
set_option maxRecDepth 100000 in
theorem hL_isSo_295 (cl : List zC) (po : Option Value → bS → Nat → Nat → Prop) (rc rs rk : Nat) (K : zK) (lv : List (Nat × Value)) (st : List Value) (σ : bS) (c n : Nat) : z_hd tL_isSo cl po rc rs rk K 295 lv st σ c n = z_st cl po rc rs rk K (.dup) [] 295 lv st σ c n := (rfl)
set_option maxRecDepth 100000 in
theorem hL_isSo_296 (cl : List zC) (po : Option Value → bS → Nat → Nat → Prop) (rc rs rk : Nat) (K : zK) (lv : List (Nat × Value)) (st : List Value) (σ : bS) (c n : Nat) : z_hd tL_isSo cl po rc rs rk K 296 lv st σ c n = z_st cl po rc rs rk K (.iconst 1) [] 296 lv st σ c n := (rfl)
set_option maxRecDepth 100000 in
theorem hL_isSo_297 (cl : List zC) (po : Option Value → bS → Nat → Nat → Prop) (rc rs rk : Nat) (K : zK) (lv : List (Nat × Value)) (st : List Value) (σ : bS) (c n : Nat) : z_hd tL_isSo cl po rc rs rk K 297 lv st σ c n = z_st cl po rc rs rk K (.aload_n 3) [] 297 lv st σ c n := (rfl)
set_option maxRecDepth 100000 in
theorem hL_isSo_298 (cl : List zC) (po : Option Value → bS → Nat → Nat → Prop) (rc rs rk : Nat) (K : zK) (lv : List (Nat × Value)) (st : List Value) (σ : bS) (c n : Nat) : z_hd tL_isSo cl po rc rs rk K 298 lv st σ c n = z_st cl po rc rs rk K (.bipush 11) [] 298 lv st σ c n := (rfl)
set_option maxRecDepth 100000 in
theorem hL_isSo_300 (cl : List zC) (po : Option Value → bS → Nat → Nat → Prop) (rc rs rk : Nat) (K : zK) (lv : List (Nat × Value)) (st : List Value) (σ : bS) (c n : Nat) : z_hd tL_isSo cl po rc rs rk K 300 lv st σ c n = z_st cl po rc rs rk K (.iload 7) [] 300 lv st σ c n := (rfl)
set_option maxRecDepth 100000 in
theorem hL_isSo_302 (cl : List zC) (po : Option Value → bS → Nat → Nat → Prop) (rc rs rk : Nat) (K : zK) (lv : List (Nat × Value)) (st : List Value) (σ : bS) (c n : Nat) : z_hd tL_isSo cl po rc rs rk K 302 lv st σ c n = z_st cl po rc rs rk K (.imul) [] 302 lv st σ c n := (rfl)
set_option maxRecDepth 100000 in
theorem hL_isSo_303 (cl : List zC) (po : Option Value → bS → Nat → Nat → Prop) (rc rs rk : Nat) (K : zK) (lv : List (Nat × Value)) (st : List Value) (σ : bS) (c n : Nat) : z_hd tL_isSo cl po rc rs rk K 303 lv st σ c n = z_st cl po rc rs rk K (.iconst 2) [] 303 lv st σ c n := (rfl)
set_option maxRecDepth 100000 in
theorem hL_isSo_304 (cl : List zC) (po : Option Value → bS → Nat → Nat → Prop) (rc rs rk : Nat) (K : zK) (lv : List (Nat × Value)) (st : List Value) (σ : bS) (c n : Nat) : z_hd tL_isSo cl po rc rs rk K 304 lv st σ c n = z_st cl po rc rs rk K (.iadd) [] 304 lv st σ c n := (rfl)
set_option maxRecDepth 100000 in
theorem hL_isSo_305 (cl : List zC) (po : Option Value → bS → Nat → Nat → Prop) (rc rs rk : Nat) (K : zK) (lv : List (Nat × Value)) (st : List Value) (σ : bS) (c n : Nat) : z_hd tL_isSo cl po rc rs rk K 305 lv st σ c n = z_st cl po rc rs rk K (.iaload) [] 305 lv st σ c n := (rfl)
set_option maxRecDepth 100000 in
theorem hL_isSo_306 (cl : List zC) (po : Option Value → bS → Nat → Nat → Prop) (rc rs rk : Nat) (K : zK) (lv : List (Nat × Value)) (st : List Value) (σ : bS) (c n : Nat) : z_hd tL_isSo cl po rc rs rk K 306 lv st σ c n = z_st cl po rc rs rk K (.iastore) [] 306 lv st σ c n := (rfl)
set_option maxRecDepth 100000 in
theorem hL_isSo_307 (cl : List zC) (po : Option Value → bS → Nat → Nat → Prop) (rc rs rk : Nat) (K : zK) (lv : List (Nat × Value)) (st : List Value) (σ : bS) (c n : Nat) : z_hd tL_isSo cl po rc rs rk K 307 lv st σ c n = z_st cl po rc rs rk K (.dup) [] 307 lv st σ c n := (rfl)
set_option maxRecDepth 100000 in
theorem hL_isSo_308 (cl : List zC) (po : Option Value → bS → Nat → Nat → Prop) (rc rs rk : Nat) (K : zK) (lv : List (Nat × Value)) (st : List Value) (σ : bS) (c n : Nat) : z_hd tL_isSo cl po rc rs rk K 308 lv st σ c n = z_st cl po rc rs rk K (.iconst 2) [] 308 lv st σ c n := (rfl)
set_option maxRecDepth 100000 in
theorem hL_isSo_309 (cl : List zC) (po : Option Value → bS → Nat → Nat → Prop) (rc rs rk : Nat) (K : zK) (lv : List (Nat × Value)) (st : List Value) (σ : bS) (c n : Nat) : z_hd tL_isSo cl po rc rs rk K 309 lv st σ c n = z_st cl po rc rs rk K (.iconst (-1)) [] 309 lv st σ c n := (rfl)
set_option maxRecDepth 100000 in
theorem hL_isSo_310 (cl : List zC) (po : Option Value → bS → Nat → Nat → Prop) (rc rs rk : Nat) (K : zK) (lv : List (Nat × Value)) (st : List Value) (σ : bS) (c n : Nat) : z_hd tL_isSo cl po rc rs rk K 310 lv st σ c n = z_st cl po rc rs rk K (.iastore) [] 310 lv st σ c n := (rfl)
set_option maxRecDepth 100000 in
theorem hL_isSo_311 (cl : List zC) (po : Option Value → bS → Nat → Nat → Prop) (rc rs rk : Nat) (K : zK) (lv : List (Nat × Value)) (st : List Value) (σ : bS) (c n : Nat) : z_hd tL_isSo cl po rc rs rk K 311 lv st σ c n = z_st cl po rc rs rk K (.dup) [] 311 lv st σ c n := (rfl)
set_option maxRecDepth 100000 in
theorem hL_isSo_312 (cl : List zC) (po : Option Value → bS → Nat → Nat → Prop) (rc rs rk : Nat) (K : zK) (lv : List (Nat × Value)) (st : List Value) (σ : bS) (c n : Nat) : z_hd tL_isSo cl po rc rs rk K 312 lv st σ c n = z_st cl po rc rs rk K (.iconst 3) [] 312 lv st σ c n := (rfl)
set_option maxRecDepth 100000 in
theorem hL_isSo_313 (cl : List zC) (po : Option Value → bS → Nat → Nat → Prop) (rc rs rk : Nat) (K : zK) (lv : List (Nat × Value)) (st : List Value) (σ : bS) (c n : Nat) : z_hd tL_isSo cl po rc rs rk K 313 lv st σ c n = z_st cl po rc rs rk K (.aload_n 3) [] 313 lv st σ c n := (rfl)
set_option maxRecDepth 100000 in
theorem hL_isSo_314 (cl : List zC) (po : Option Value → bS → Nat → Nat → Prop) (rc rs rk : Nat) (K : zK) (lv : List (Nat × Value)) (st : List Value) (σ : bS) (c n : Nat) : z_hd tL_isSo cl po rc rs rk K 314 lv st σ c n = z_st cl po rc rs rk K (.bipush 11) [] 314 lv st σ c n := (rfl)
set_option maxRecDepth 100000 in
theorem hL_isSo_316 (cl : List zC) (po : Option Value → bS → Nat → Nat → Prop) (rc rs rk : Nat) (K : zK) (lv : List (Nat × Value)) (st : List Value) (σ : bS) (c n : Nat) : z_hd tL_isSo cl po rc rs rk K 316 lv st σ c n = z_st cl po rc rs rk K (.iload 7) [] 316 lv st σ c n := (rfl)
set_option maxRecDepth 100000 in
theorem hL_isSo_318 (cl : List zC) (po : Option Value → bS → Nat → Nat → Prop) (rc rs rk : Nat) (K : zK) (lv : List (Nat × Value)) (st : List Value) (σ : bS) (c n : Nat) : z_hd tL_isSo cl po rc rs rk K 318 lv st σ c n = z_st cl po rc rs rk K (.imul) [] 318 lv st σ c n := (rfl)
set_option maxRecDepth 100000 in
theorem hL_isSo_319 (cl : List zC) (po : Option Value → bS → Nat → Nat → Prop) (rc rs rk : Nat) (K : zK) (lv : List (Nat × Value)) (st : List Value) (σ : bS) (c n : Nat) : z_hd tL_isSo cl po rc rs rk K 319 lv st σ c n = z_st cl po rc rs rk K (.iconst 3) [] 319 lv st σ c n := (rfl)
set_option maxRecDepth 100000 in
theorem hL_isSo_320 (cl : List zC) (po : Option Value → bS → Nat → Nat → Prop) (rc rs rk : Nat) (K : zK) (lv : List (Nat × Value)) (st : List Value) (σ : bS) (c n : Nat) : z_hd tL_isSo cl po rc rs rk K 320 lv st σ c n = z_st cl po rc rs rk K (.iadd) [] 320 lv st σ c n := (rfl)
set_option maxRecDepth 100000 in
theorem hL_isSo_321 (cl : List zC) (po : Option Value → bS → Nat → Nat → Prop) (rc rs rk : Nat) (K : zK) (lv : List (Nat × Value)) (st : List Value) (σ : bS) (c n : Nat) : z_hd tL_isSo cl po rc rs rk K 321 lv st σ c n = z_st cl po rc rs rk K (.iaload) [] 321 lv st σ c n := (rfl)
set_option maxRecDepth 100000 in
theorem hL_isSo_322 (cl : List zC) (po : Option Value → bS → Nat → Nat → Prop) (rc rs rk : Nat) (K : zK) (lv : List (Nat × Value)) (st : List Value) (σ : bS) (c n : Nat) : z_hd tL_isSo cl po rc rs rk K 322 lv st σ c n = z_st cl po rc rs rk K (.iastore) [] 322 lv st σ c n := (rfl)
set_option maxRecDepth 100000 in
theorem hL_isSo_323 (cl : List zC) (po : Option Value → bS → Nat → Nat → Prop) (rc rs rk : Nat) (K : zK) (lv : List (Nat × Value)) (st : List Value) (σ : bS) (c n : Nat) : z_hd tL_isSo cl po rc rs rk K 323 lv st σ c n = z_st cl po rc rs rk K (.dup) [] 323 lv st σ c n := (rfl)
set_option maxRecDepth 100000 in
theorem hL_isSo_324 (cl : List zC) (po : Option Value → bS → Nat → Nat → Prop) (rc rs rk : Nat) (K : zK) (lv : List (Nat × Value)) (st : List Value) (σ : bS) (c n : Nat) : z_hd tL_isSo cl po rc rs rk K 324 lv st σ c n = z_st cl po rc rs rk K (.iconst 4) [] 324 lv st σ c n := (rfl)
set_option maxRecDepth 100000 in
theorem hL_isSo_325 (cl : List zC) (po : Option Value → bS → Nat → Nat → Prop) (rc rs rk : Nat) (K : zK) (lv : List (Nat × Value)) (st : List Value) (σ : bS) (c n : Nat) : z_hd tL_isSo cl po rc rs rk K 325 lv st σ c n = z_st cl po rc rs rk K (.aload_n 3) [] 325 lv st σ c n := (rfl)
set_option maxRecDepth 100000 in
theorem hL_isSo_326 (cl : List zC) (po : Option Value → bS → Nat → Nat → Prop) (rc rs rk : Nat) (K : zK) (lv : List (Nat × Value)) (st : List Value) (σ : bS) (c n : Nat) : z_hd tL_isSo cl po rc rs rk K 326 lv st σ c n = z_st cl po rc rs rk K (.bipush 11) [] 326 lv st σ c n := (rfl)
set_option maxRecDepth 100000 in
theorem hL_isSo_328 (cl : List zC) (po : Option Value → bS → Nat → Nat → Prop) (rc rs rk : Nat) (K : zK) (lv : List (Nat × Value)) (st : List Value) (σ : bS) (c n : Nat) : z_hd tL_isSo cl po rc rs rk K 328 lv st σ c n = z_st cl po rc rs rk K (.iload 7) [] 328 lv st σ c n := (rfl)
set_option maxRecDepth 100000 in
theorem hL_isSo_330 (cl : List zC) (po : Option Value → bS → Nat → Nat → Prop) (rc rs rk : Nat) (K : zK) (lv : List (Nat × Value)) (st : List Value) (σ : bS) (c n : Nat) : z_hd tL_isSo cl po rc rs rk K 330 lv st σ c n = z_st cl po rc rs rk K (.imul) [] 330 lv st σ c n := (rfl)
set_option maxRecDepth 100000 in
theorem hL_isSo_331 (cl : List zC) (po : Option Value → bS → Nat → Nat → Prop) (rc rs rk : Nat) (K : zK) (lv : List (Nat × Value)) (st : List Value) (σ : bS) (c n : Nat) : z_hd tL_isSo cl po rc rs rk K 331 lv st σ c n = z_st cl po rc rs rk K (.iconst 4) [] 331 lv st σ c n := (rfl)
set_option maxRecDepth 100000 in
theorem hL_isSo_332 (cl : List zC) (po : Option Value → bS → Nat → Nat → Prop) (rc rs rk : Nat) (K : zK) (lv : List (Nat × Value)) (st : List Value) (σ : bS) (c n : Nat) : z_hd tL_isSo cl po rc rs rk K 332 lv st σ c n = z_st cl po rc rs rk K (.iadd) [] 332 lv st σ c n := (rfl)
set_option maxRecDepth 100000 in
theorem hL_isSo_333 (cl : List zC) (po : Option Value → bS → Nat → Nat → Prop) (rc rs rk : Nat) (K : zK) (lv : List (Nat × Value)) (st : List Value) (σ : bS) (c n : Nat) : z_hd tL_isSo cl po rc rs rk K 333 lv st σ c n = z_st cl po rc rs rk K (.iaload) [] 333 lv st σ c n := (rfl)
set_option maxRecDepth 100000 in
theorem hL_isSo_334 (cl : List zC) (po : Option Value → bS → Nat → Nat → Prop) (rc rs rk : Nat) (K : zK) (lv : List (Nat × Value)) (st : List Value) (σ : bS) (c n : Nat) : z_hd tL_isSo cl po rc rs rk K 334 lv st σ c n = z_st cl po rc rs rk K (.iastore) [] 334 lv st σ c n := (rfl)
set_option maxRecDepth 100000 in
theorem hL_isSo_335 (cl : List zC) (po : Option Value → bS → Nat → Nat → Prop) (rc rs rk : Nat) (K : zK) (lv : List (Nat × Value)) (st : List Value) (σ : bS) (c n : Nat) : z_hd tL_isSo cl po rc rs rk K 335 lv st σ c n = z_st cl po rc rs rk K (.dup) [] 335 lv st σ c n := (rfl)
set_option maxRecDepth 100000 in
theorem hL_isSo_336 (cl : List zC) (po : Option Value → bS → Nat → Nat → Prop) (rc rs rk : Nat) (K : zK) (lv : List (Nat × Value)) (st : List Value) (σ : bS) (c n : Nat) : z_hd tL_isSo cl po rc rs rk K 336 lv st σ c n = z_st cl po rc rs rk K (.iconst 5) [] 336 lv st σ c n := (rfl)
set_option maxRecDepth 100000 in
theorem hL_isSo_337 (cl : List zC) (po : Option Value → bS → Nat → Nat → Prop) (rc rs rk : Nat) (K : zK) (lv : List (Nat × Value)) (st : List Value) (σ : bS) (c n : Nat) : z_hd tL_isSo cl po rc rs rk K 337 lv st σ c n = z_st cl po rc rs rk K (.aload_n 3) [] 337 lv st σ c n := (rfl)
set_option maxRecDepth 100000 in
theorem hL_isSo_338 (cl : List zC) (po : Option Value → bS → Nat → Nat → Prop) (rc rs rk : Nat) (K : zK) (lv : List (Nat × Value)) (st : List Value) (σ : bS) (c n : Nat) : z_hd tL_isSo cl po rc rs rk K 338 lv st σ c n = z_st cl po rc rs rk K (.bipush 11) [] 338 lv st σ c n := (rfl)
set_option maxRecDepth 100000 in
theorem hL_isSo_340 (cl : List zC) (po : Option Value → bS → Nat → Nat → Prop) (rc rs rk : Nat) (K : zK) (lv : List (Nat × Value)) (st : List Value) (σ : bS) (c n : Nat) : z_hd tL_isSo cl po rc rs rk K 340 lv st σ c n = z_st cl po rc rs rk K (.iload 7) [] 340 lv st σ c n := (rfl)
set_option maxRecDepth 100000 in
theorem hL_isSo_342 (cl : List zC) (po : Option Value → bS → Nat → Nat → Prop) (rc rs rk : Nat) (K : zK) (lv : List (Nat × Value)) (st : List Value) (σ : bS) (c n : Nat) : z_hd tL_isSo cl po rc rs rk K 342 lv st σ c n = z_st cl po rc rs rk K (.imul) [] 342 lv st σ c n := (rfl)
set_option maxRecDepth 100000 in
theorem hL_isSo_343 (cl : List zC) (po : Option Value → bS → Nat → Nat → Prop) (rc rs rk : Nat) (K : zK) (lv : List (Nat × Value)) (st : List Value) (σ : bS) (c n : Nat) : z_hd tL_isSo cl po rc rs rk K 343 lv st σ c n = z_st cl po rc rs rk K (.iaload) [] 343 lv st σ c n := (rfl)
set_option maxRecDepth 100000 in
theorem hL_isSo_344 (cl : List zC) (po : Option Value → bS → Nat → Nat → Prop) (rc rs rk : Nat) (K : zK) (lv : List (Nat × Value)) (st : List Value) (σ : bS) (c n : Nat) : z_hd tL_isSo cl po rc rs rk K 344 lv st σ c n = z_st cl po rc rs rk K (.iastore) [] 344 lv st σ c n := (rfl)
set_option maxRecDepth 100000 in
theorem hL_isSo_345 (cl : List zC) (po : Option Value → bS → Nat → Nat → Prop) (rc rs rk : Nat) (K : zK) (lv : List (Nat × Value)) (st : List Value) (σ : bS) (c n : Nat) : z_hd tL_isSo cl po rc rs rk K 345 lv st σ c n = z_st cl po rc rs rk K (.astore 8) [] 345 lv st σ c n := (rfl)
set_option maxRecDepth 100000 in
theorem hL_isSo_347 (cl : List zC) (po : Option Value → bS → Nat → Nat → Prop) (rc rs rk : Nat) (K : zK) (lv : List (Nat × Value)) (st : List Value) (σ : bS) (c n : Nat) : z_hd tL_isSo cl po rc rs rk K 347 lv st σ c n = z_st cl po rc rs rk K (.iload 6) [] 347 lv st σ c n := (rfl)
set_option maxRecDepth 100000 in
theorem hL_isSo_349 (cl : List zC) (po : Option Value → bS → Nat → Nat → Prop) (rc rs rk : Nat) (K : zK) (lv : List (Nat × Value)) (st : List Value) (σ : bS) (c n : Nat) : z_hd tL_isSo cl po rc rs rk K 349 lv st σ c n = z_st cl po rc rs rk K (.aload_n 0) [] 349 lv st σ c n := (rfl)
set_option maxRecDepth 100000 in
theorem hL_isSo_350 (cl : List zC) (po : Option Value → bS → Nat → Nat → Prop) (rc rs rk : Nat) (K : zK) (lv : List (Nat × Value)) (st : List Value) (σ : bS) (c n : Nat) : z_hd tL_isSo cl po rc rs rk K 350 lv st σ c n = z_st cl po rc rs rk K (.iload 7) [] 350 lv st σ c n := (rfl)
set_option maxRecDepth 100000 in
theorem hL_isSo_352 (cl : List zC) (po : Option Value → bS → Nat → Nat → Prop) (rc rs rk : Nat) (K : zK) (lv : List (Nat × Value)) (st : List Value) (σ : bS) (c n : Nat) : z_hd tL_isSo cl po rc rs rk K 352 lv st σ c n = z_st cl po rc rs rk K (.iconst 0) [] 352 lv st σ c n := (rfl)
set_option maxRecDepth 100000 in
theorem hL_isSo_353 (cl : List zC) (po : Option Value → bS → Nat → Nat → Prop) (rc rs rk : Nat) (K : zK) (lv : List (Nat × Value)) (st : List Value) (σ : bS) (c n : Nat) : z_hd tL_isSo cl po rc rs rk K 353 lv st σ c n = z_st cl po rc rs rk K (.invokevirtual 46) [] 353 lv st σ c n := (rfl)
set_option maxRecDepth 100000 in
theorem hL_isSo_356 (cl : List zC) (po : Option Value → bS → Nat → Nat → Prop) (rc rs rk : Nat) (K : zK) (lv : List (Nat × Value)) (st : List Value) (σ : bS) (c n : Nat) : z_hd tL_isSo cl po rc rs rk K 356 lv st σ c n = z_st cl po rc rs rk K (.iadd) [] 356 lv st σ c n := (rfl)
set_option maxRecDepth 100000 in
theorem hL_isSo_357 (cl : List zC) (po : Option Value → bS → Nat → Nat → Prop) (rc rs rk : Nat) (K : zK) (lv : List (Nat × Value)) (st : List Value) (σ : bS) (c n : Nat) : z_hd tL_isSo cl po rc rs rk K 357 lv st σ c n = z_st cl po rc rs rk K (.istore 6) [] 357 lv st σ c n := (rfl)
set_option maxRecDepth 100000 in
theorem hL_isSo_359 (cl : List zC) (po : Option Value → bS → Nat → Nat → Prop) (rc rs rk : Nat) (K : zK) (lv : List (Nat × Value)) (st : List Value) (σ : bS) (c n : Nat) : z_hd tL_isSo cl po rc rs rk K 359 lv st σ c n = z_st cl po rc rs rk K (.iconst 0) [] 359 lv st σ c n := (rfl)
set_option maxRecDepth 100000 in
theorem hL_isSo_360 (cl : List zC) (po : Option Value → bS → Nat → Nat → Prop) (rc rs rk : Nat) (K : zK) (lv : List (Nat × Value)) (st : List Value) (σ : bS) (c n : Nat) : z_hd tL_isSo cl po rc rs rk K 360 lv st σ c n = z_st cl po rc rs rk K (.istore 9) [] 360 lv st σ c n := (rfl)
set_option maxRecDepth 100000 in
theorem hL_isSo_362 (cl : List zC) (po : Option Value → bS → Nat → Nat → Prop) (rc rs rk : Nat) (K : zK) (lv : List (Nat × Value)) (st : List Value) (σ : bS) (c n : Nat) : z_hd tL_isSo cl po rc rs rk K 362 lv st σ c n = z_st cl po rc rs rk K (.iload 9) [] 362 lv st σ c n := (rfl)
set_option maxRecDepth 100000 in
theorem hL_isSo_364 (cl : List zC) (po : Option Value → bS → Nat → Nat → Prop) (rc rs rk : Nat) (K : zK) (lv : List (Nat × Value)) (st : List Value) (σ : bS) (c n : Nat) : z_hd tL_isSo cl po rc rs rk K 364 lv st σ c n = z_st cl po rc rs rk K (.bipush 6) [] 364 lv st σ c n := (rfl)
set_option maxRecDepth 100000 in
theorem hL_isSo_366 (cl : List zC) (po : Option Value → bS → Nat → Nat → Prop) (rc rs rk : Nat) (K : zK) (lv : List (Nat × Value)) (st : List Value) (σ : bS) (c n : Nat) : z_hd tL_isSo cl po rc rs rk K 366 lv st σ c n = z_st cl po rc rs rk K (.if_icmp .ge 35) [401] 366 lv st σ c n := (rfl)
set_option maxRecDepth 100000 in
theorem hL_isSo_369 (cl : List zC) (po : Option Value → bS → Nat → Nat → Prop) (rc rs rk : Nat) (K : zK) (lv : List (Nat × Value)) (st : List Value) (σ : bS) (c n : Nat) : z_hd tL_isSo cl po rc rs rk K 369 lv st σ c n = z_st cl po rc rs rk K (.iload 9) [] 369 lv st σ c n := (rfl)
set_option maxRecDepth 100000 in
theorem hL_isSo_371 (cl : List zC) (po : Option Value → bS → Nat → Nat → Prop) (rc rs rk : Nat) (K : zK) (lv : List (Nat × Value)) (st : List Value) (σ : bS) (c n : Nat) : z_hd tL_isSo cl po rc rs rk K 371 lv st σ c n = z_st cl po rc rs rk K (.iconst 2) [] 371 lv st σ c n := (rfl)
set_option maxRecDepth 100000 in
theorem hL_isSo_372 (cl : List zC) (po : Option Value → bS → Nat → Nat → Prop) (rc rs rk : Nat) (K : zK) (lv : List (Nat × Value)) (st : List Value) (σ : bS) (c n : Nat) : z_hd tL_isSo cl po rc rs rk K 372 lv st σ c n = z_st cl po rc rs rk K (.if_icmp .eq 23) [395] 372 lv st σ c n := (rfl)
set_option maxRecDepth 100000 in
theorem hL_isSo_375 (cl : List zC) (po : Option Value → bS → Nat → Nat → Prop) (rc rs rk : Nat) (K : zK) (lv : List (Nat × Value)) (st : List Value) (σ : bS) (c n : Nat) : z_hd tL_isSo cl po rc rs rk K 375 lv st σ c n = z_st cl po rc rs rk K (.aload_n 0) [] 375 lv st σ c n := (rfl)
set_option maxRecDepth 100000 in
theorem hL_isSo_376 (cl : List zC) (po : Option Value → bS → Nat → Nat → Prop) (rc rs rk : Nat) (K : zK) (lv : List (Nat × Value)) (st : List Value) (σ : bS) (c n : Nat) : z_hd tL_isSo cl po rc rs rk K 376 lv st σ c n = z_st cl po rc rs rk K (.iload 7) [] 376 lv st σ c n := (rfl)
set_option maxRecDepth 100000 in
theorem hL_isSo_378 (cl : List zC) (po : Option Value → bS → Nat → Nat → Prop) (rc rs rk : Nat) (K : zK) (lv : List (Nat × Value)) (st : List Value) (σ : bS) (c n : Nat) : z_hd tL_isSo cl po rc rs rk K 378 lv st σ c n = z_st cl po rc rs rk K (.iconst 4) [] 378 lv st σ c n := (rfl)
set_option maxRecDepth 100000 in
theorem hL_isSo_379 (cl : List zC) (po : Option Value → bS → Nat → Nat → Prop) (rc rs rk : Nat) (K : zK) (lv : List (Nat × Value)) (st : List Value) (σ : bS) (c n : Nat) : z_hd tL_isSo cl po rc rs rk K 379 lv st σ c n = z_st cl po rc rs rk K (.iload 9) [] 379 lv st σ c n := (rfl)
set_option maxRecDepth 100000 in
theorem hL_isSo_381 (cl : List zC) (po : Option Value → bS → Nat → Nat → Prop) (rc rs rk : Nat) (K : zK) (lv : List (Nat × Value)) (st : List Value) (σ : bS) (c n : Nat) : z_hd tL_isSo cl po rc rs rk K 381 lv st σ c n = z_st cl po rc rs rk K (.iadd) [] 381 lv st σ c n := (rfl)
set_option maxRecDepth 100000 in
theorem hL_isSo_382 (cl : List zC) (po : Option Value → bS → Nat → Nat → Prop) (rc rs rk : Nat) (K : zK) (lv : List (Nat × Value)) (st : List Value) (σ : bS) (c n : Nat) : z_hd tL_isSo cl po rc rs rk K 382 lv st σ c n = z_st cl po rc rs rk K (.invokevirtual 46) [] 382 lv st σ c n := (rfl)
set_option maxRecDepth 100000 in
theorem hL_isSo_385 (cl : List zC) (po : Option Value → bS → Nat → Nat → Prop) (rc rs rk : Nat) (K : zK) (lv : List (Nat × Value)) (st : List Value) (σ : bS) (c n : Nat) : z_hd tL_isSo cl po rc rs rk K 385 lv st σ c n = z_st cl po rc rs rk K (.aload 8) [] 385 lv st σ c n := (rfl)
set_option maxRecDepth 100000 in
theorem hL_isSo_387 (cl : List zC) (po : Option Value → bS → Nat → Nat → Prop) (rc rs rk : Nat) (K : zK) (lv : List (Nat × Value)) (st : List Value) (σ : bS) (c n : Nat) : z_hd tL_isSo cl po rc rs rk K 387 lv st σ c n = z_st cl po rc rs rk K (.iload 9) [] 387 lv st σ c n := (rfl)
set_option maxRecDepth 100000 in
theorem hL_isSo_389 (cl : List zC) (po : Option Value → bS → Nat → Nat → Prop) (rc rs rk : Nat) (K : zK) (lv : List (Nat × Value)) (st : List Value) (σ : bS) (c n : Nat) : z_hd tL_isSo cl po rc rs rk K 389 lv st σ c n = z_st cl po rc rs rk K (.iaload) [] 389 lv st σ c n := (rfl)
set_option maxRecDepth 100000 in
theorem hL_isSo_390 (cl : List zC) (po : Option Value → bS → Nat → Nat → Prop) (rc rs rk : Nat) (K : zK) (lv : List (Nat × Value)) (st : List Value) (σ : bS) (c n : Nat) : z_hd tL_isSo cl po rc rs rk K 390 lv st σ c n = z_st cl po rc rs rk K (.if_icmp .eq 5) [395] 390 lv st σ c n := (rfl)
set_option maxRecDepth 100000 in
theorem hL_isSo_393 (cl : List zC) (po : Option Value → bS → Nat → Nat → Prop) (rc rs rk : Nat) (K : zK) (lv : List (Nat × Value)) (st : List Value) (σ : bS) (c n : Nat) : z_hd tL_isSo cl po rc rs rk K 393 lv st σ c n = z_st cl po rc rs rk K (.iconst 0) [] 393 lv st σ c n := (rfl)
set_option maxRecDepth 100000 in
theorem hL_isSo_394 (cl : List zC) (po : Option Value → bS → Nat → Nat → Prop) (rc rs rk : Nat) (K : zK) (lv : List (Nat × Value)) (st : List Value) (σ : bS) (c n : Nat) : z_hd tL_isSo cl po rc rs rk K 394 lv st σ c n = z_st cl po rc rs rk K (.ireturn) [] 394 lv st σ c n := (rfl)
set_option maxRecDepth 100000 in
theorem hL_isSo_395 (cl : List zC) (po : Option Value → bS → Nat → Nat → Prop) (rc rs rk : Nat) (K : zK) (lv : List (Nat × Value)) (st : List Value) (σ : bS) (c n : Nat) : z_hd tL_isSo cl po rc rs rk K 395 lv st σ c n = z_st cl po rc rs rk K (.iinc 9 1) [] 395 lv st σ c n := (rfl)
set_option maxRecDepth 100000 in
theorem hL_isSo_398 (cl : List zC) (po : Option Value → bS → Nat → Nat → Prop) (rc rs rk : Nat) (K : zK) (lv : List (Nat × Value)) (st : List Value) (σ : bS) (c n : Nat) : z_hd tL_isSo cl po rc rs rk K 398 lv st σ c n = z_st cl po rc rs rk K (.goto (-36)) [362] 398 lv st σ c n := (rfl)
set_option maxRecDepth 100000 in
theorem hL_isSo_401 (cl : List zC) (po : Option Value → bS → Nat → Nat → Prop) (rc rs rk : Nat) (K : zK) (lv : List (Nat × Value)) (st : List Value) (σ : bS) (c n : Nat) : z_hd tL_isSo cl po rc rs rk K 401 lv st σ c n = z_st cl po rc rs rk K (.aload_n 0) [] 401 lv st σ c n := (rfl)
set_option maxRecDepth 100000 in
theorem hL_isSo_402 (cl : List zC) (po : Option Value → bS → Nat → Nat → Prop) (rc rs rk : Nat) (K : zK) (lv : List (Nat × Value)) (st : List Value) (σ : bS) (c n : Nat) : z_hd tL_isSo cl po rc rs rk K 402 lv st σ c n = z_st cl po rc rs rk K (.iload 7) [] 402 lv st σ c n := (rfl)
set_option maxRecDepth 100000 in
theorem hL_isSo_404 (cl : List zC) (po : Option Value → bS → Nat → Nat → Prop) (rc rs rk : Nat) (K : zK) (lv : List (Nat × Value)) (st : List Value) (σ : bS) (c n : Nat) : z_hd tL_isSo cl po rc rs rk K 404 lv st σ c n = z_st cl po rc rs rk K (.bipush 6) [] 404 lv st σ c n := (rfl)
set_option maxRecDepth 100000 in
theorem hL_isSo_406 (cl : List zC) (po : Option Value → bS → Nat → Nat → Prop) (rc rs rk : Nat) (K : zK) (lv : List (Nat × Value)) (st : List Value) (σ : bS) (c n : Nat) : z_hd tL_isSo cl po rc rs rk K 406 lv st σ c n = z_st cl po rc rs rk K (.invokevirtual 46) [] 406 lv st σ c n := (rfl)
set_option maxRecDepth 100000 in
theorem hL_isSo_409 (cl : List zC) (po : Option Value → bS → Nat → Nat → Prop) (rc rs rk : Nat) (K : zK) (lv : List (Nat × Value)) (st : List Value) (σ : bS) (c n : Nat) : z_hd tL_isSo cl po rc rs rk K 409 lv st σ c n = z_st cl po rc rs rk K (.istore 9) [] 409 lv st σ c n := (rfl)
set_option maxRecDepth 100000 in
theorem hL_isSo_411 (cl : List zC) (po : Option Value → bS → Nat → Nat → Prop) (rc rs rk : Nat) (K : zK) (lv : List (Nat × Value)) (st : List Value) (σ : bS) (c n : Nat) : z_hd tL_isSo cl po rc rs rk K 411 lv st σ c n = z_st cl po rc rs rk K (.aload_n 0) [] 411 lv st σ c n := (rfl)
set_option maxRecDepth 100000 in
theorem hL_isSo_412 (cl : List zC) (po : Option Value → bS → Nat → Nat → Prop) (rc rs rk : Nat) (K : zK) (lv : List (Nat × Value)) (st : List Value) (σ : bS) (c n : Nat) : z_hd tL_isSo cl po rc rs rk K 412 lv st σ c n = z_st cl po rc rs rk K (.iload 7) [] 412 lv st σ c n := (rfl)
set_option maxRecDepth 100000 in
theorem hL_isSo_414 (cl : List zC) (po : Option Value → bS → Nat → Nat → Prop) (rc rs rk : Nat) (K : zK) (lv : List (Nat × Value)) (st : List Value) (σ : bS) (c n : Nat) : z_hd tL_isSo cl po rc rs rk K 414 lv st σ c n = z_st cl po rc rs rk K (.iconst 0) [] 414 lv st σ c n := (rfl)
set_option maxRecDepth 100000 in
theorem hL_isSo_415 (cl : List zC) (po : Option Value → bS → Nat → Nat → Prop) (rc rs rk : Nat) (K : zK) (lv : List (Nat × Value)) (st : List Value) (σ : bS) (c n : Nat) : z_hd tL_isSo cl po rc rs rk K 415 lv st σ c n = z_st cl po rc rs rk K (.invokevirtual 46) [] 415 lv st σ c n := (rfl)
set_option maxRecDepth 100000 in
theorem hL_isSo_418 (cl : List zC) (po : Option Value → bS → Nat → Nat → Prop) (rc rs rk : Nat) (K : zK) (lv : List (Nat × Value)) (st : List Value) (σ : bS) (c n : Nat) : z_hd tL_isSo cl po rc rs rk K 418 lv st σ c n = z_st cl po rc rs rk K (.ifCond .lt 92) [510] 418 lv st σ c n := (rfl)
set_option maxRecDepth 100000 in
theorem hL_isSo_421 (cl : List zC) (po : Option Value → bS → Nat → Nat → Prop) (rc rs rk : Nat) (K : zK) (lv : List (Nat × Value)) (st : List Value) (σ : bS) (c n : Nat) : z_hd tL_isSo cl po rc rs rk K 421 lv st σ c n = z_st cl po rc rs rk K (.aload_n 0) [] 421 lv st σ c n := (rfl)
set_option maxRecDepth 100000 in
theorem hL_isSo_422 (cl : List zC) (po : Option Value → bS → Nat → Nat → Prop) (rc rs rk : Nat) (K : zK) (lv : List (Nat × Value)) (st : List Value) (σ : bS) (c n : Nat) : z_hd tL_isSo cl po rc rs rk K 422 lv st σ c n = z_st cl po rc rs rk K (.iload 7) [] 422 lv st σ c n := (rfl)
set_option maxRecDepth 100000 in
theorem hL_isSo_424 (cl : List zC) (po : Option Value → bS → Nat → Nat → Prop) (rc rs rk : Nat) (K : zK) (lv : List (Nat × Value)) (st : List Value) (σ : bS) (c n : Nat) : z_hd tL_isSo cl po rc rs rk K 424 lv st σ c n = z_st cl po rc rs rk K (.iconst 3) [] 424 lv st σ c n := (rfl)
set_option maxRecDepth 100000 in
theorem hL_isSo_425 (cl : List zC) (po : Option Value → bS → Nat → Nat → Prop) (rc rs rk : Nat) (K : zK) (lv : List (Nat × Value)) (st : List Value) (σ : bS) (c n : Nat) : z_hd tL_isSo cl po rc rs rk K 425 lv st σ c n = z_st cl po rc rs rk K (.invokevirtual 46) [] 425 lv st σ c n := (rfl)
set_option maxRecDepth 100000 in
theorem hL_isSo_428 (cl : List zC) (po : Option Value → bS → Nat → Nat → Prop) (rc rs rk : Nat) (K : zK) (lv : List (Nat × Value)) (st : List Value) (σ : bS) (c n : Nat) : z_hd tL_isSo cl po rc rs rk K 428 lv st σ c n = z_st cl po rc rs rk K (.ifCond .lt 82) [510] 428 lv st σ c n := (rfl)
set_option maxRecDepth 100000 in
theorem hL_isSo_431 (cl : List zC) (po : Option Value → bS → Nat → Nat → Prop) (rc rs rk : Nat) (K : zK) (lv : List (Nat × Value)) (st : List Value) (σ : bS) (c n : Nat) : z_hd tL_isSo cl po rc rs rk K 431 lv st σ c n = z_st cl po rc rs rk K (.aload_n 0) [] 431 lv st σ c n := (rfl)
set_option maxRecDepth 100000 in
theorem hL_isSo_432 (cl : List zC) (po : Option Value → bS → Nat → Nat → Prop) (rc rs rk : Nat) (K : zK) (lv : List (Nat × Value)) (st : List Value) (σ : bS) (c n : Nat) : z_hd tL_isSo cl po rc rs rk K 432 lv st σ c n = z_st cl po rc rs rk K (.iload 7) [] 432 lv st σ c n := (rfl)
set_option maxRecDepth 100000 in
theorem hL_isSo_434 (cl : List zC) (po : Option Value → bS → Nat → Nat → Prop) (rc rs rk : Nat) (K : zK) (lv : List (Nat × Value)) (st : List Value) (σ : bS) (c n : Nat) : z_hd tL_isSo cl po rc rs rk K 434 lv st σ c n = z_st cl po rc rs rk K (.iconst 3) [] 434 lv st σ c n := (rfl)
set_option maxRecDepth 100000 in
theorem hL_isSo_435 (cl : List zC) (po : Option Value → bS → Nat → Nat → Prop) (rc rs rk : Nat) (K : zK) (lv : List (Nat × Value)) (st : List Value) (σ : bS) (c n : Nat) : z_hd tL_isSo cl po rc rs rk K 435 lv st σ c n = z_st cl po rc rs rk K (.invokevirtual 46) [] 435 lv st σ c n := (rfl)
set_option maxRecDepth 100000 in
theorem hL_isSo_438 (cl : List zC) (po : Option Value → bS → Nat → Nat → Prop) (rc rs rk : Nat) (K : zK) (lv : List (Nat × Value)) (st : List Value) (σ : bS) (c n : Nat) : z_hd tL_isSo cl po rc rs rk K 438 lv st σ c n = z_st cl po rc rs rk K (.bipush 30) [] 438 lv st σ c n := (rfl)
set_option maxRecDepth 100000 in
theorem hL_isSo_440 (cl : List zC) (po : Option Value → bS → Nat → Nat → Prop) (rc rs rk : Nat) (K : zK) (lv : List (Nat × Value)) (st : List Value) (σ : bS) (c n : Nat) : z_hd tL_isSo cl po rc rs rk K 440 lv st σ c n = z_st cl po rc rs rk K (.if_icmp .gt 70) [510] 440 lv st σ c n := (rfl)
set_option maxRecDepth 100000 in
theorem hL_isSo_443 (cl : List zC) (po : Option Value → bS → Nat → Nat → Prop) (rc rs rk : Nat) (K : zK) (lv : List (Nat × Value)) (st : List Value) (σ : bS) (c n : Nat) : z_hd tL_isSo cl po rc rs rk K 443 lv st σ c n = z_st cl po rc rs rk K (.iload 9) [] 443 lv st σ c n := (rfl)
set_option maxRecDepth 100000 in
theorem hL_isSo_445 (cl : List zC) (po : Option Value → bS → Nat → Nat → Prop) (rc rs rk : Nat) (K : zK) (lv : List (Nat × Value)) (st : List Value) (σ : bS) (c n : Nat) : z_hd tL_isSo cl po rc rs rk K 445 lv st σ c n = z_st cl po rc rs rk K (.ifCond .lt 7) [452] 445 lv st σ c n := (rfl)
set_option maxRecDepth 100000 in
theorem hL_isSo_448 (cl : List zC) (po : Option Value → bS → Nat → Nat → Prop) (rc rs rk : Nat) (K : zK) (lv : List (Nat × Value)) (st : List Value) (σ : bS) (c n : Nat) : z_hd tL_isSo cl po rc rs rk K 448 lv st σ c n = z_st cl po rc rs rk K (.iconst 1) [] 448 lv st σ c n := (rfl)
set_option maxRecDepth 100000 in
theorem hL_isSo_449 (cl : List zC) (po : Option Value → bS → Nat → Nat → Prop) (rc rs rk : Nat) (K : zK) (lv : List (Nat × Value)) (st : List Value) (σ : bS) (c n : Nat) : z_hd tL_isSo cl po rc rs rk K 449 lv st σ c n = z_st cl po rc rs rk K (.goto 4) [453] 449 lv st σ c n := (rfl)
set_option maxRecDepth 100000 in
theorem hL_isSo_452 (cl : List zC) (po : Option Value → bS → Nat → Nat → Prop) (rc rs rk : Nat) (K : zK) (lv : List (Nat × Value)) (st : List Value) (σ : bS) (c n : Nat) : z_hd tL_isSo cl po rc rs rk K 452 lv st σ c n = z_st cl po rc rs rk K (.iconst 0) [] 452 lv st σ c n := (rfl)
set_option maxRecDepth 100000 in
theorem hL_isSo_453 (cl : List zC) (po : Option Value → bS → Nat → Nat → Prop) (rc rs rk : Nat) (K : zK) (lv : List (Nat × Value)) (st : List Value) (σ : bS) (c n : Nat) : z_hd tL_isSo cl po rc rs rk K 453 lv st σ c n = z_st cl po rc rs rk K (.aload 8) [] 453 lv st σ c n := (rfl)
set_option maxRecDepth 100000 in
theorem hL_isSo_455 (cl : List zC) (po : Option Value → bS → Nat → Nat → Prop) (rc rs rk : Nat) (K : zK) (lv : List (Nat × Value)) (st : List Value) (σ : bS) (c n : Nat) : z_hd tL_isSo cl po rc rs rk K 455 lv st σ c n = z_st cl po rc rs rk K (.iconst 1) [] 455 lv st σ c n := (rfl)
set_option maxRecDepth 100000 in
theorem hL_isSo_456 (cl : List zC) (po : Option Value → bS → Nat → Nat → Prop) (rc rs rk : Nat) (K : zK) (lv : List (Nat × Value)) (st : List Value) (σ : bS) (c n : Nat) : z_hd tL_isSo cl po rc rs rk K 456 lv st σ c n = z_st cl po rc rs rk K (.iaload) [] 456 lv st σ c n := (rfl)
set_option maxRecDepth 100000 in
theorem hL_isSo_457 (cl : List zC) (po : Option Value → bS → Nat → Nat → Prop) (rc rs rk : Nat) (K : zK) (lv : List (Nat × Value)) (st : List Value) (σ : bS) (c n : Nat) : z_hd tL_isSo cl po rc rs rk K 457 lv st σ c n = z_st cl po rc rs rk K (.ifCond .le 7) [464] 457 lv st σ c n := (rfl)
set_option maxRecDepth 100000 in
theorem hL_isSo_460 (cl : List zC) (po : Option Value → bS → Nat → Nat → Prop) (rc rs rk : Nat) (K : zK) (lv : List (Nat × Value)) (st : List Value) (σ : bS) (c n : Nat) : z_hd tL_isSo cl po rc rs rk K 460 lv st σ c n = z_st cl po rc rs rk K (.iconst 1) [] 460 lv st σ c n := (rfl)
set_option maxRecDepth 100000 in
theorem hL_isSo_461 (cl : List zC) (po : Option Value → bS → Nat → Nat → Prop) (rc rs rk : Nat) (K : zK) (lv : List (Nat × Value)) (st : List Value) (σ : bS) (c n : Nat) : z_hd tL_isSo cl po rc rs rk K 461 lv st σ c n = z_st cl po rc rs rk K (.goto 4) [465] 461 lv st σ c n := (rfl)
set_option maxRecDepth 100000 in
theorem hL_isSo_464 (cl : List zC) (po : Option Value → bS → Nat → Nat → Prop) (rc rs rk : Nat) (K : zK) (lv : List (Nat × Value)) (st : List Value) (σ : bS) (c n : Nat) : z_hd tL_isSo cl po rc rs rk K 464 lv st σ c n = z_st cl po rc rs rk K (.iconst 0) [] 464 lv st σ c n := (rfl)
set_option maxRecDepth 100000 in
theorem hL_isSo_465 (cl : List zC) (po : Option Value → bS → Nat → Nat → Prop) (rc rs rk : Nat) (K : zK) (lv : List (Nat × Value)) (st : List Value) (σ : bS) (c n : Nat) : z_hd tL_isSo cl po rc rs rk K 465 lv st σ c n = z_st cl po rc rs rk K (.if_icmp .ne 45) [510] 465 lv st σ c n := (rfl)
set_option maxRecDepth 100000 in
theorem hL_isSo_468 (cl : List zC) (po : Option Value → bS → Nat → Nat → Prop) (rc rs rk : Nat) (K : zK) (lv : List (Nat × Value)) (st : List Value) (σ : bS) (c n : Nat) : z_hd tL_isSo cl po rc rs rk K 468 lv st σ c n = z_st cl po rc rs rk K (.iload 9) [] 468 lv st σ c n := (rfl)
set_option maxRecDepth 100000 in
theorem hL_isSo_470 (cl : List zC) (po : Option Value → bS → Nat → Nat → Prop) (rc rs rk : Nat) (K : zK) (lv : List (Nat × Value)) (st : List Value) (σ : bS) (c n : Nat) : z_hd tL_isSo cl po rc rs rk K 470 lv st σ c n = z_st cl po rc rs rk K (.ifCond .lt 26) [496] 470 lv st σ c n := (rfl)
set_option maxRecDepth 100000 in
theorem hL_isSo_473 (cl : List zC) (po : Option Value → bS → Nat → Nat → Prop) (rc rs rk : Nat) (K : zK) (lv : List (Nat × Value)) (st : List Value) (σ : bS) (c n : Nat) : z_hd tL_isSo cl po rc rs rk K 473 lv st σ c n = z_st cl po rc rs rk K (.aload_n 0) [] 473 lv st σ c n := (rfl)
set_option maxRecDepth 100000 in
theorem hL_isSo_474 (cl : List zC) (po : Option Value → bS → Nat → Nat → Prop) (rc rs rk : Nat) (K : zK) (lv : List (Nat × Value)) (st : List Value) (σ : bS) (c n : Nat) : z_hd tL_isSo cl po rc rs rk K 474 lv st σ c n = z_st cl po rc rs rk K (.iload 9) [] 474 lv st σ c n := (rfl)
set_option maxRecDepth 100000 in
theorem hL_isSo_476 (cl : List zC) (po : Option Value → bS → Nat → Nat → Prop) (rc rs rk : Nat) (K : zK) (lv : List (Nat × Value)) (st : List Value) (σ : bS) (c n : Nat) : z_hd tL_isSo cl po rc rs rk K 476 lv st σ c n = z_st cl po rc rs rk K (.iconst 0) [] 476 lv st σ c n := (rfl)
set_option maxRecDepth 100000 in
theorem hL_isSo_477 (cl : List zC) (po : Option Value → bS → Nat → Nat → Prop) (rc rs rk : Nat) (K : zK) (lv : List (Nat × Value)) (st : List Value) (σ : bS) (c n : Nat) : z_hd tL_isSo cl po rc rs rk K 477 lv st σ c n = z_st cl po rc rs rk K (.invokevirtual 40) [] 477 lv st σ c n := (rfl)
set_option maxRecDepth 100000 in
theorem hL_isSo_480 (cl : List zC) (po : Option Value → bS → Nat → Nat → Prop) (rc rs rk : Nat) (K : zK) (lv : List (Nat × Value)) (st : List Value) (σ : bS) (c n : Nat) : z_hd tL_isSo cl po rc rs rk K 480 lv st σ c n = z_st cl po rc rs rk K (.iconst 2) [] 480 lv st σ c n := (rfl)
set_option maxRecDepth 100000 in
theorem hL_isSo_481 (cl : List zC) (po : Option Value → bS → Nat → Nat → Prop) (rc rs rk : Nat) (K : zK) (lv : List (Nat × Value)) (st : List Value) (σ : bS) (c n : Nat) : z_hd tL_isSo cl po rc rs rk K 481 lv st σ c n = z_st cl po rc rs rk K (.if_icmp .ne 29) [510] 481 lv st σ c n := (rfl)
set_option maxRecDepth 100000 in
theorem hL_isSo_484 (cl : List zC) (po : Option Value → bS → Nat → Nat → Prop) (rc rs rk : Nat) (K : zK) (lv : List (Nat × Value)) (st : List Value) (σ : bS) (c n : Nat) : z_hd tL_isSo cl po rc rs rk K 484 lv st σ c n = z_st cl po rc rs rk K (.aload_n 0) [] 484 lv st σ c n := (rfl)
set_option maxRecDepth 100000 in
theorem hL_isSo_485 (cl : List zC) (po : Option Value → bS → Nat → Nat → Prop) (rc rs rk : Nat) (K : zK) (lv : List (Nat × Value)) (st : List Value) (σ : bS) (c n : Nat) : z_hd tL_isSo cl po rc rs rk K 485 lv st σ c n = z_st cl po rc rs rk K (.iload 9) [] 485 lv st σ c n := (rfl)
set_option maxRecDepth 100000 in
theorem hL_isSo_487 (cl : List zC) (po : Option Value → bS → Nat → Nat → Prop) (rc rs rk : Nat) (K : zK) (lv : List (Nat × Value)) (st : List Value) (σ : bS) (c n : Nat) : z_hd tL_isSo cl po rc rs rk K 487 lv st σ c n = z_st cl po rc rs rk K (.iconst 1) [] 487 lv st σ c n := (rfl)
set_option maxRecDepth 100000 in
theorem hL_isSo_488 (cl : List zC) (po : Option Value → bS → Nat → Nat → Prop) (rc rs rk : Nat) (K : zK) (lv : List (Nat × Value)) (st : List Value) (σ : bS) (c n : Nat) : z_hd tL_isSo cl po rc rs rk K 488 lv st σ c n = z_st cl po rc rs rk K (.invokevirtual 40) [] 488 lv st σ c n := (rfl)
set_option maxRecDepth 100000 in
theorem hL_isSo_491 (cl : List zC) (po : Option Value → bS → Nat → Nat → Prop) (rc rs rk : Nat) (K : zK) (lv : List (Nat × Value)) (st : List Value) (σ : bS) (c n : Nat) : z_hd tL_isSo cl po rc rs rk K 491 lv st σ c n = z_st cl po rc rs rk K (.iload 7) [] 491 lv st σ c n := (rfl)
set_option maxRecDepth 100000 in
theorem hL_isSo_493 (cl : List zC) (po : Option Value → bS → Nat → Nat → Prop) (rc rs rk : Nat) (K : zK) (lv : List (Nat × Value)) (st : List Value) (σ : bS) (c n : Nat) : z_hd tL_isSo cl po rc rs rk K 493 lv st σ c n = z_st cl po rc rs rk K (.if_icmp .ne 17) [510] 493 lv st σ c n := (rfl)
set_option maxRecDepth 100000 in
theorem hL_isSo_496 (cl : List zC) (po : Option Value → bS → Nat → Nat → Prop) (rc rs rk : Nat) (K : zK) (lv : List (Nat × Value)) (st : List Value) (σ : bS) (c n : Nat) : z_hd tL_isSo cl po rc rs rk K 496 lv st σ c n = z_st cl po rc rs rk K (.aload_n 0) [] 496 lv st σ c n := (rfl)
set_option maxRecDepth 100000 in
theorem hL_isSo_497 (cl : List zC) (po : Option Value → bS → Nat → Nat → Prop) (rc rs rk : Nat) (K : zK) (lv : List (Nat × Value)) (st : List Value) (σ : bS) (c n : Nat) : z_hd tL_isSo cl po rc rs rk K 497 lv st σ c n = z_st cl po rc rs rk K (.iload 7) [] 497 lv st σ c n := (rfl)
set_option maxRecDepth 100000 in
theorem hL_isSo_499 (cl : List zC) (po : Option Value → bS → Nat → Nat → Prop) (rc rs rk : Nat) (K : zK) (lv : List (Nat × Value)) (st : List Value) (σ : bS) (c n : Nat) : z_hd tL_isSo cl po rc rs rk K 499 lv st σ c n = z_st cl po rc rs rk K (.aload 8) [] 499 lv st σ c n := (rfl)
set_option maxRecDepth 100000 in
theorem hL_isSo_501 (cl : List zC) (po : Option Value → bS → Nat → Nat → Prop) (rc rs rk : Nat) (K : zK) (lv : List (Nat × Value)) (st : List Value) (σ : bS) (c n : Nat) : z_hd tL_isSo cl po rc rs rk K 501 lv st σ c n = z_st cl po rc rs rk K (.iconst 0) [] 501 lv st σ c n := (rfl)
set_option maxRecDepth 100000 in
theorem hL_isSo_502 (cl : List zC) (po : Option Value → bS → Nat → Nat → Prop) (rc rs rk : Nat) (K : zK) (lv : List (Nat × Value)) (st : List Value) (σ : bS) (c n : Nat) : z_hd tL_isSo cl po rc rs rk K 502 lv st σ c n = z_st cl po rc rs rk K (.iaload) [] 502 lv st σ c n := (rfl)
set_option maxRecDepth 100000 in
theorem hL_isSo_503 (cl : List zC) (po : Option Value → bS → Nat → Nat → Prop) (rc rs rk : Nat) (K : zK) (lv : List (Nat × Value)) (st : List Value) (σ : bS) (c n : Nat) : z_hd tL_isSo cl po rc rs rk K 503 lv st σ c n = z_st cl po rc rs rk K (.invokevirtual 110) [] 503 lv st σ c n := (rfl)
set_option maxRecDepth 100000 in
theorem hL_isSo_506 (cl : List zC) (po : Option Value → bS → Nat → Nat → Prop) (rc rs rk : Nat) (K : zK) (lv : List (Nat × Value)) (st : List Value) (σ : bS) (c n : Nat) : z_hd tL_isSo cl po rc rs rk K 506 lv st σ c n = z_st cl po rc rs rk K (.iconst (-1)) [] 506 lv st σ c n := (rfl)
set_option maxRecDepth 100000 in
theorem hL_isSo_507 (cl : List zC) (po : Option Value → bS → Nat → Nat → Prop) (rc rs rk : Nat) (K : zK) (lv : List (Nat × Value)) (st : List Value) (σ : bS) (c n : Nat) : z_hd tL_isSo cl po rc rs rk K 507 lv st σ c n = z_st cl po rc rs rk K (.if_icmp .eq 5) [512] 507 lv st σ c n := (rfl)
set_option maxRecDepth 100000 in
theorem hL_isSo_510 (cl : List zC) (po : Option Value → bS → Nat → Nat → Prop) (rc rs rk : Nat) (K : zK) (lv : List (Nat × Value)) (st : List Value) (σ : bS) (c n : Nat) : z_hd tL_isSo cl po rc rs rk K 510 lv st σ c n = z_st cl po rc rs rk K (.iconst 0) [] 510 lv st σ c n := (rfl)
set_option maxRecDepth 100000 in
theorem hL_isSo_511 (cl : List zC) (po : Option Value → bS → Nat → Nat → Prop) (rc rs rk : Nat) (K : zK) (lv : List (Nat × Value)) (st : List Value) (σ : bS) (c n : Nat) : z_hd tL_isSo cl po rc rs rk K 511 lv st σ c n = z_st cl po rc rs rk K (.ireturn) [] 511 lv st σ c n := (rfl)
set_option maxRecDepth 100000 in
theorem hL_isSo_512 (cl : List zC) (po : Option Value → bS → Nat → Nat → Prop) (rc rs rk : Nat) (K : zK) (lv : List (Nat × Value)) (st : List Value) (σ : bS) (c n : Nat) : z_hd tL_isSo cl po rc rs rk K 512 lv st σ c n = z_st cl po rc rs rk K (.iconst 0) [] 512 lv st σ c n := (rfl)
set_option maxRecDepth 100000 in
theorem hL_isSo_513 (cl : List zC) (po : Option Value → bS → Nat → Nat → Prop) (rc rs rk : Nat) (K : zK) (lv : List (Nat × Value)) (st : List Value) (σ : bS) (c n : Nat) : z_hd tL_isSo cl po rc rs rk K 513 lv st σ c n = z_st cl po rc rs rk K (.istore 10) [] 513 lv st σ c n := (rfl)
set_option maxRecDepth 100000 in
theorem hL_isSo_515 (cl : List zC) (po : Option Value → bS → Nat → Nat → Prop) (rc rs rk : Nat) (K : zK) (lv : List (Nat × Value)) (st : List Value) (σ : bS) (c n : Nat) : z_hd tL_isSo cl po rc rs rk K 515 lv st σ c n = z_st cl po rc rs rk K (.iload 10) [] 515 lv st σ c n := (rfl)
set_option maxRecDepth 100000 in
theorem hL_isSo_517 (cl : List zC) (po : Option Value → bS → Nat → Nat → Prop) (rc rs rk : Nat) (K : zK) (lv : List (Nat × Value)) (st : List Value) (σ : bS) (c n : Nat) : z_hd tL_isSo cl po rc rs rk K 517 lv st σ c n = z_st cl po rc rs rk K (.aload 8) [] 517 lv st σ c n := (rfl)
set_option maxRecDepth 100000 in
theorem hL_isSo_519 (cl : List zC) (po : Option Value → bS → Nat → Nat → Prop) (rc rs rk : Nat) (K : zK) (lv : List (Nat × Value)) (st : List Value) (σ : bS) (c n : Nat) : z_hd tL_isSo cl po rc rs rk K 519 lv st σ c n = z_st cl po rc rs rk K (.iconst 0) [] 519 lv st σ c n := (rfl)
set_option maxRecDepth 100000 in
theorem hL_isSo_520 (cl : List zC) (po : Option Value → bS → Nat → Nat → Prop) (rc rs rk : Nat) (K : zK) (lv : List (Nat × Value)) (st : List Value) (σ : bS) (c n : Nat) : z_hd tL_isSo cl po rc rs rk K 520 lv st σ c n = z_st cl po rc rs rk K (.iaload) [] 520 lv st σ c n := (rfl)
set_option maxRecDepth 100000 in
theorem hL_isSo_521 (cl : List zC) (po : Option Value → bS → Nat → Nat → Prop) (rc rs rk : Nat) (K : zK) (lv : List (Nat × Value)) (st : List Value) (σ : bS) (c n : Nat) : z_hd tL_isSo cl po rc rs rk K 521 lv st σ c n = z_st cl po rc rs rk K (.if_icmp .ge 46) [567] 521 lv st σ c n := (rfl)
set_option maxRecDepth 100000 in
theorem hL_isSo_524 (cl : List zC) (po : Option Value → bS → Nat → Nat → Prop) (rc rs rk : Nat) (K : zK) (lv : List (Nat × Value)) (st : List Value) (σ : bS) (c n : Nat) : z_hd tL_isSo cl po rc rs rk K 524 lv st σ c n = z_st cl po rc rs rk K (.aload_n 0) [] 524 lv st σ c n := (rfl)
set_option maxRecDepth 100000 in
theorem hL_isSo_525 (cl : List zC) (po : Option Value → bS → Nat → Nat → Prop) (rc rs rk : Nat) (K : zK) (lv : List (Nat × Value)) (st : List Value) (σ : bS) (c n : Nat) : z_hd tL_isSo cl po rc rs rk K 525 lv st σ c n = z_st cl po rc rs rk K (.aload_n 0) [] 525 lv st σ c n := (rfl)
set_option maxRecDepth 100000 in
theorem hL_isSo_526 (cl : List zC) (po : Option Value → bS → Nat → Nat → Prop) (rc rs rk : Nat) (K : zK) (lv : List (Nat × Value)) (st : List Value) (σ : bS) (c n : Nat) : z_hd tL_isSo cl po rc rs rk K 526 lv st σ c n = z_st cl po rc rs rk K (.iload 7) [] 526 lv st σ c n := (rfl)
set_option maxRecDepth 100000 in
theorem hL_isSo_528 (cl : List zC) (po : Option Value → bS → Nat → Nat → Prop) (rc rs rk : Nat) (K : zK) (lv : List (Nat × Value)) (st : List Value) (σ : bS) (c n : Nat) : z_hd tL_isSo cl po rc rs rk K 528 lv st σ c n = z_st cl po rc rs rk K (.iload 10) [] 528 lv st σ c n := (rfl)
set_option maxRecDepth 100000 in
theorem hL_isSo_530 (cl : List zC) (po : Option Value → bS → Nat → Nat → Prop) (rc rs rk : Nat) (K : zK) (lv : List (Nat × Value)) (st : List Value) (σ : bS) (c n : Nat) : z_hd tL_isSo cl po rc rs rk K 530 lv st σ c n = z_st cl po rc rs rk K (.invokevirtual 110) [] 530 lv st σ c n := (rfl)
set_option maxRecDepth 100000 in
theorem hL_isSo_533 (cl : List zC) (po : Option Value → bS → Nat → Nat → Prop) (rc rs rk : Nat) (K : zK) (lv : List (Nat × Value)) (st : List Value) (σ : bS) (c n : Nat) : z_hd tL_isSo cl po rc rs rk K 533 lv st σ c n = z_st cl po rc rs rk K (.iconst 0) [] 533 lv st σ c n := (rfl)
set_option maxRecDepth 100000 in
theorem hL_isSo_534 (cl : List zC) (po : Option Value → bS → Nat → Nat → Prop) (rc rs rk : Nat) (K : zK) (lv : List (Nat × Value)) (st : List Value) (σ : bS) (c n : Nat) : z_hd tL_isSo cl po rc rs rk K 534 lv st σ c n = z_st cl po rc rs rk K (.invokevirtual 40) [] 534 lv st σ c n := (rfl)
set_option maxRecDepth 100000 in
theorem hL_isSo_537 (cl : List zC) (po : Option Value → bS → Nat → Nat → Prop) (rc rs rk : Nat) (K : zK) (lv : List (Nat × Value)) (st : List Value) (σ : bS) (c n : Nat) : z_hd tL_isSo cl po rc rs rk K 537 lv st σ c n = z_st cl po rc rs rk K (.iconst 1) [] 537 lv st σ c n := (rfl)
set_option maxRecDepth 100000 in
theorem hL_isSo_538 (cl : List zC) (po : Option Value → bS → Nat → Nat → Prop) (rc rs rk : Nat) (K : zK) (lv : List (Nat × Value)) (st : List Value) (σ : bS) (c n : Nat) : z_hd tL_isSo cl po rc rs rk K 538 lv st σ c n = z_st cl po rc rs rk K (.if_icmp .ne 21) [559] 538 lv st σ c n := (rfl)
set_option maxRecDepth 100000 in
theorem hL_isSo_541 (cl : List zC) (po : Option Value → bS → Nat → Nat → Prop) (rc rs rk : Nat) (K : zK) (lv : List (Nat × Value)) (st : List Value) (σ : bS) (c n : Nat) : z_hd tL_isSo cl po rc rs rk K 541 lv st σ c n = z_st cl po rc rs rk K (.aload_n 0) [] 541 lv st σ c n := (rfl)
set_option maxRecDepth 100000 in
theorem hL_isSo_542 (cl : List zC) (po : Option Value → bS → Nat → Nat → Prop) (rc rs rk : Nat) (K : zK) (lv : List (Nat × Value)) (st : List Value) (σ : bS) (c n : Nat) : z_hd tL_isSo cl po rc rs rk K 542 lv st σ c n = z_st cl po rc rs rk K (.aload_n 0) [] 542 lv st σ c n := (rfl)
set_option maxRecDepth 100000 in
theorem hL_isSo_543 (cl : List zC) (po : Option Value → bS → Nat → Nat → Prop) (rc rs rk : Nat) (K : zK) (lv : List (Nat × Value)) (st : List Value) (σ : bS) (c n : Nat) : z_hd tL_isSo cl po rc rs rk K 543 lv st σ c n = z_st cl po rc rs rk K (.iload 7) [] 543 lv st σ c n := (rfl)
set_option maxRecDepth 100000 in
theorem hL_isSo_545 (cl : List zC) (po : Option Value → bS → Nat → Nat → Prop) (rc rs rk : Nat) (K : zK) (lv : List (Nat × Value)) (st : List Value) (σ : bS) (c n : Nat) : z_hd tL_isSo cl po rc rs rk K 545 lv st σ c n = z_st cl po rc rs rk K (.iload 10) [] 545 lv st σ c n := (rfl)
set_option maxRecDepth 100000 in
theorem hL_isSo_547 (cl : List zC) (po : Option Value → bS → Nat → Nat → Prop) (rc rs rk : Nat) (K : zK) (lv : List (Nat × Value)) (st : List Value) (σ : bS) (c n : Nat) : z_hd tL_isSo cl po rc rs rk K 547 lv st σ c n = z_st cl po rc rs rk K (.invokevirtual 110) [] 547 lv st σ c n := (rfl)
set_option maxRecDepth 100000 in
theorem hL_isSo_550 (cl : List zC) (po : Option Value → bS → Nat → Nat → Prop) (rc rs rk : Nat) (K : zK) (lv : List (Nat × Value)) (st : List Value) (σ : bS) (c n : Nat) : z_hd tL_isSo cl po rc rs rk K 550 lv st σ c n = z_st cl po rc rs rk K (.iconst 1) [] 550 lv st σ c n := (rfl)
set_option maxRecDepth 100000 in
theorem hL_isSo_551 (cl : List zC) (po : Option Value → bS → Nat → Nat → Prop) (rc rs rk : Nat) (K : zK) (lv : List (Nat × Value)) (st : List Value) (σ : bS) (c n : Nat) : z_hd tL_isSo cl po rc rs rk K 551 lv st σ c n = z_st cl po rc rs rk K (.invokevirtual 40) [] 551 lv st σ c n := (rfl)
set_option maxRecDepth 100000 in
theorem hL_isSo_554 (cl : List zC) (po : Option Value → bS → Nat → Nat → Prop) (rc rs rk : Nat) (K : zK) (lv : List (Nat × Value)) (st : List Value) (σ : bS) (c n : Nat) : z_hd tL_isSo cl po rc rs rk K 554 lv st σ c n = z_st cl po rc rs rk K (.iload 7) [] 554 lv st σ c n := (rfl)
set_option maxRecDepth 100000 in
theorem hL_isSo_556 (cl : List zC) (po : Option Value → bS → Nat → Nat → Prop) (rc rs rk : Nat) (K : zK) (lv : List (Nat × Value)) (st : List Value) (σ : bS) (c n : Nat) : z_hd tL_isSo cl po rc rs rk K 556 lv st σ c n = z_st cl po rc rs rk K (.if_icmp .eq 5) [561] 556 lv st σ c n := (rfl)
set_option maxRecDepth 100000 in
theorem hL_isSo_559 (cl : List zC) (po : Option Value → bS → Nat → Nat → Prop) (rc rs rk : Nat) (K : zK) (lv : List (Nat × Value)) (st : List Value) (σ : bS) (c n : Nat) : z_hd tL_isSo cl po rc rs rk K 559 lv st σ c n = z_st cl po rc rs rk K (.iconst 0) [] 559 lv st σ c n := (rfl)
set_option maxRecDepth 100000 in
theorem hL_isSo_560 (cl : List zC) (po : Option Value → bS → Nat → Nat → Prop) (rc rs rk : Nat) (K : zK) (lv : List (Nat × Value)) (st : List Value) (σ : bS) (c n : Nat) : z_hd tL_isSo cl po rc rs rk K 560 lv st σ c n = z_st cl po rc rs rk K (.ireturn) [] 560 lv st σ c n := (rfl)
set_option maxRecDepth 100000 in
theorem hL_isSo_561 (cl : List zC) (po : Option Value → bS → Nat → Nat → Prop) (rc rs rk : Nat) (K : zK) (lv : List (Nat × Value)) (st : List Value) (σ : bS) (c n : Nat) : z_hd tL_isSo cl po rc rs rk K 561 lv st σ c n = z_st cl po rc rs rk K (.iinc 10 1) [] 561 lv st σ c n := (rfl)
set_option maxRecDepth 100000 in
theorem hL_isSo_564 (cl : List zC) (po : Option Value → bS → Nat → Nat → Prop) (rc rs rk : Nat) (K : zK) (lv : List (Nat × Value)) (st : List Value) (σ : bS) (c n : Nat) : z_hd tL_isSo cl po rc rs rk K 564 lv st σ c n = z_st cl po rc rs rk K (.goto (-49)) [515] 564 lv st σ c n := (rfl)
set_option maxRecDepth 100000 in
theorem hL_isSo_567 (cl : List zC) (po : Option Value → bS → Nat → Nat → Prop) (rc rs rk : Nat) (K : zK) (lv : List (Nat × Value)) (st : List Value) (σ : bS) (c n : Nat) : z_hd tL_isSo cl po rc rs rk K 567 lv st σ c n = z_st cl po rc rs rk K (.iinc 7 1) [] 567 lv st σ c n := (rfl)
set_option maxRecDepth 100000 in
theorem hL_isSo_570 (cl : List zC) (po : Option Value → bS → Nat → Nat → Prop) (rc rs rk : Nat) (K : zK) (lv : List (Nat × Value)) (st : List Value) (σ : bS) (c n : Nat) : z_hd tL_isSo cl po rc rs rk K 570 lv st σ c n = z_st cl po rc rs rk K (.goto (-298)) [272] 570 lv st σ c n := (rfl)
set_option maxRecDepth 100000 in
theorem hL_isSo_573 (cl : List zC) (po : Option Value → bS → Nat → Nat → Prop) (rc rs rk : Nat) (K : zK) (lv : List (Nat × Value)) (st : List Value) (σ : bS) (c n : Nat) : z_hd tL_isSo cl po rc rs rk K 573 lv st σ c n = z_st cl po rc rs rk K (.iconst 0) [] 573 lv st σ c n := (rfl)
set_option maxRecDepth 100000 in
theorem hL_isSo_574 (cl : List zC) (po : Option Value → bS → Nat → Nat → Prop) (rc rs rk : Nat) (K : zK) (lv : List (Nat × Value)) (st : List Value) (σ : bS) (c n : Nat) : z_hd tL_isSo cl po rc rs rk K 574 lv st σ c n = z_st cl po rc rs rk K (.istore 7) [] 574 lv st σ c n := (rfl)
set_option maxRecDepth 100000 in
theorem hL_isSo_576 (cl : List zC) (po : Option Value → bS → Nat → Nat → Prop) (rc rs rk : Nat) (K : zK) (lv : List (Nat × Value)) (st : List Value) (σ : bS) (c n : Nat) : z_hd tL_isSo cl po rc rs rk K 576 lv st σ c n = z_st cl po rc rs rk K (.iconst 0) [] 576 lv st σ c n := (rfl)
set_option maxRecDepth 100000 in
theorem hL_isSo_577 (cl : List zC) (po : Option Value → bS → Nat → Nat → Prop) (rc rs rk : Nat) (K : zK) (lv : List (Nat × Value)) (st : List Value) (σ : bS) (c n : Nat) : z_hd tL_isSo cl po rc rs rk K 577 lv st σ c n = z_st cl po rc rs rk K (.istore 8) [] 577 lv st σ c n := (rfl)
set_option maxRecDepth 100000 in
theorem hL_isSo_579 (cl : List zC) (po : Option Value → bS → Nat → Nat → Prop) (rc rs rk : Nat) (K : zK) (lv : List (Nat × Value)) (st : List Value) (σ : bS) (c n : Nat) : z_hd tL_isSo cl po rc rs rk K 579 lv st σ c n = z_st cl po rc rs rk K (.iconst 0) [] 579 lv st σ c n := (rfl)
set_option maxRecDepth 100000 in
theorem hL_isSo_580 (cl : List zC) (po : Option Value → bS → Nat → Nat → Prop) (rc rs rk : Nat) (K : zK) (lv : List (Nat × Value)) (st : List Value) (σ : bS) (c n : Nat) : z_hd tL_isSo cl po rc rs rk K 580 lv st σ c n = z_st cl po rc rs rk K (.istore 9) [] 580 lv st σ c n := (rfl)
set_option maxRecDepth 100000 in
theorem hL_isSo_582 (cl : List zC) (po : Option Value → bS → Nat → Nat → Prop) (rc rs rk : Nat) (K : zK) (lv : List (Nat × Value)) (st : List Value) (σ : bS) (c n : Nat) : z_hd tL_isSo cl po rc rs rk K 582 lv st σ c n = z_st cl po rc rs rk K (.iconst 0) [] 582 lv st σ c n := (rfl)
set_option maxRecDepth 100000 in
theorem hL_isSo_583 (cl : List zC) (po : Option Value → bS → Nat → Nat → Prop) (rc rs rk : Nat) (K : zK) (lv : List (Nat × Value)) (st : List Value) (σ : bS) (c n : Nat) : z_hd tL_isSo cl po rc rs rk K 583 lv st σ c n = z_st cl po rc rs rk K (.istore 10) [] 583 lv st σ c n := (rfl)
set_option maxRecDepth 100000 in
theorem hL_isSo_585 (cl : List zC) (po : Option Value → bS → Nat → Nat → Prop) (rc rs rk : Nat) (K : zK) (lv : List (Nat × Value)) (st : List Value) (σ : bS) (c n : Nat) : z_hd tL_isSo cl po rc rs rk K 585 lv st σ c n = z_st cl po rc rs rk K (.iload 10) [] 585 lv st σ c n := (rfl)
set_option maxRecDepth 100000 in
theorem hL_isSo_587 (cl : List zC) (po : Option Value → bS → Nat → Nat → Prop) (rc rs rk : Nat) (K : zK) (lv : List (Nat × Value)) (st : List Value) (σ : bS) (c n : Nat) : z_hd tL_isSo cl po rc rs rk K 587 lv st σ c n = z_st cl po rc rs rk K (.iconst 4) [] 587 lv st σ c n := (rfl)
set_option maxRecDepth 100000 in
theorem hL_isSo_588 (cl : List zC) (po : Option Value → bS → Nat → Nat → Prop) (rc rs rk : Nat) (K : zK) (lv : List (Nat × Value)) (st : List Value) (σ : bS) (c n : Nat) : z_hd tL_isSo cl po rc rs rk K 588 lv st σ c n = z_st cl po rc rs rk K (.if_icmp .ge 107) [695] 588 lv st σ c n := (rfl)
set_option maxRecDepth 100000 in
theorem hL_isSo_591 (cl : List zC) (po : Option Value → bS → Nat → Nat → Prop) (rc rs rk : Nat) (K : zK) (lv : List (Nat × Value)) (st : List Value) (σ : bS) (c n : Nat) : z_hd tL_isSo cl po rc rs rk K 591 lv st σ c n = z_st cl po rc rs rk K (.iload 7) [] 591 lv st σ c n := (rfl)
set_option maxRecDepth 100000 in
theorem hL_isSo_593 (cl : List zC) (po : Option Value → bS → Nat → Nat → Prop) (rc rs rk : Nat) (K : zK) (lv : List (Nat × Value)) (st : List Value) (σ : bS) (c n : Nat) : z_hd tL_isSo cl po rc rs rk K 593 lv st σ c n = z_st cl po rc rs rk K (.aload_n 0) [] 593 lv st σ c n := (rfl)
set_option maxRecDepth 100000 in
theorem hL_isSo_594 (cl : List zC) (po : Option Value → bS → Nat → Nat → Prop) (rc rs rk : Nat) (K : zK) (lv : List (Nat × Value)) (st : List Value) (σ : bS) (c n : Nat) : z_hd tL_isSo cl po rc rs rk K 594 lv st σ c n = z_st cl po rc rs rk K (.iload 10) [] 594 lv st σ c n := (rfl)
set_option maxRecDepth 100000 in
theorem hL_isSo_596 (cl : List zC) (po : Option Value → bS → Nat → Nat → Prop) (rc rs rk : Nat) (K : zK) (lv : List (Nat × Value)) (st : List Value) (σ : bS) (c n : Nat) : z_hd tL_isSo cl po rc rs rk K 596 lv st σ c n = z_st cl po rc rs rk K (.iconst 2) [] 596 lv st σ c n := (rfl)
set_option maxRecDepth 100000 in
theorem hL_isSo_597 (cl : List zC) (po : Option Value → bS → Nat → Nat → Prop) (rc rs rk : Nat) (K : zK) (lv : List (Nat × Value)) (st : List Value) (σ : bS) (c n : Nat) : z_hd tL_isSo cl po rc rs rk K 597 lv st σ c n = z_st cl po rc rs rk K (.invokevirtual 43) [] 597 lv st σ c n := (rfl)
set_option maxRecDepth 100000 in
theorem hL_isSo_600 (cl : List zC) (po : Option Value → bS → Nat → Nat → Prop) (rc rs rk : Nat) (K : zK) (lv : List (Nat × Value)) (st : List Value) (σ : bS) (c n : Nat) : z_hd tL_isSo cl po rc rs rk K 600 lv st σ c n = z_st cl po rc rs rk K (.iadd) [] 600 lv st σ c n := (rfl)
set_option maxRecDepth 100000 in
theorem hL_isSo_601 (cl : List zC) (po : Option Value → bS → Nat → Nat → Prop) (rc rs rk : Nat) (K : zK) (lv : List (Nat × Value)) (st : List Value) (σ : bS) (c n : Nat) : z_hd tL_isSo cl po rc rs rk K 601 lv st σ c n = z_st cl po rc rs rk K (.istore 7) [] 601 lv st σ c n := (rfl)
set_option maxRecDepth 100000 in
theorem hL_isSo_603 (cl : List zC) (po : Option Value → bS → Nat → Nat → Prop) (rc rs rk : Nat) (K : zK) (lv : List (Nat × Value)) (st : List Value) (σ : bS) (c n : Nat) : z_hd tL_isSo cl po rc rs rk K 603 lv st σ c n = z_st cl po rc rs rk K (.iload 8) [] 603 lv st σ c n := (rfl)
set_option maxRecDepth 100000 in
theorem hL_isSo_605 (cl : List zC) (po : Option Value → bS → Nat → Nat → Prop) (rc rs rk : Nat) (K : zK) (lv : List (Nat × Value)) (st : List Value) (σ : bS) (c n : Nat) : z_hd tL_isSo cl po rc rs rk K 605 lv st σ c n = z_st cl po rc rs rk K (.aload_n 0) [] 605 lv st σ c n := (rfl)
set_option maxRecDepth 100000 in
theorem hL_isSo_606 (cl : List zC) (po : Option Value → bS → Nat → Nat → Prop) (rc rs rk : Nat) (K : zK) (lv : List (Nat × Value)) (st : List Value) (σ : bS) (c n : Nat) : z_hd tL_isSo cl po rc rs rk K 606 lv st σ c n = z_st cl po rc rs rk K (.iload 10) [] 606 lv st σ c n := (rfl)
set_option maxRecDepth 100000 in
theorem hL_isSo_608 (cl : List zC) (po : Option Value → bS → Nat → Nat → Prop) (rc rs rk : Nat) (K : zK) (lv : List (Nat × Value)) (st : List Value) (σ : bS) (c n : Nat) : z_hd tL_isSo cl po rc rs rk K 608 lv st σ c n = z_st cl po rc rs rk K (.iconst 4) [] 608 lv st σ c n := (rfl)
set_option maxRecDepth 100000 in
theorem hL_isSo_609 (cl : List zC) (po : Option Value → bS → Nat → Nat → Prop) (rc rs rk : Nat) (K : zK) (lv : List (Nat × Value)) (st : List Value) (σ : bS) (c n : Nat) : z_hd tL_isSo cl po rc rs rk K 609 lv st σ c n = z_st cl po rc rs rk K (.invokevirtual 43) [] 609 lv st σ c n := (rfl)
set_option maxRecDepth 100000 in
theorem hL_isSo_612 (cl : List zC) (po : Option Value → bS → Nat → Nat → Prop) (rc rs rk : Nat) (K : zK) (lv : List (Nat × Value)) (st : List Value) (σ : bS) (c n : Nat) : z_hd tL_isSo cl po rc rs rk K 612 lv st σ c n = z_st cl po rc rs rk K (.iadd) [] 612 lv st σ c n := (rfl)
set_option maxRecDepth 100000 in
theorem hL_isSo_613 (cl : List zC) (po : Option Value → bS → Nat → Nat → Prop) (rc rs rk : Nat) (K : zK) (lv : List (Nat × Value)) (st : List Value) (σ : bS) (c n : Nat) : z_hd tL_isSo cl po rc rs rk K 613 lv st σ c n = z_st cl po rc rs rk K (.istore 8) [] 613 lv st σ c n := (rfl)
set_option maxRecDepth 100000 in
theorem hL_isSo_615 (cl : List zC) (po : Option Value → bS → Nat → Nat → Prop) (rc rs rk : Nat) (K : zK) (lv : List (Nat × Value)) (st : List Value) (σ : bS) (c n : Nat) : z_hd tL_isSo cl po rc rs rk K 615 lv st σ c n = z_st cl po rc rs rk K (.iload 9) [] 615 lv st σ c n := (rfl)
set_option maxRecDepth 100000 in
theorem hL_isSo_617 (cl : List zC) (po : Option Value → bS → Nat → Nat → Prop) (rc rs rk : Nat) (K : zK) (lv : List (Nat × Value)) (st : List Value) (σ : bS) (c n : Nat) : z_hd tL_isSo cl po rc rs rk K 617 lv st σ c n = z_st cl po rc rs rk K (.aload_n 0) [] 617 lv st σ c n := (rfl)
set_option maxRecDepth 100000 in
theorem hL_isSo_618 (cl : List zC) (po : Option Value → bS → Nat → Nat → Prop) (rc rs rk : Nat) (K : zK) (lv : List (Nat × Value)) (st : List Value) (σ : bS) (c n : Nat) : z_hd tL_isSo cl po rc rs rk K 618 lv st σ c n = z_st cl po rc rs rk K (.iload 10) [] 618 lv st σ c n := (rfl)
set_option maxRecDepth 100000 in
theorem hL_isSo_620 (cl : List zC) (po : Option Value → bS → Nat → Nat → Prop) (rc rs rk : Nat) (K : zK) (lv : List (Nat × Value)) (st : List Value) (σ : bS) (c n : Nat) : z_hd tL_isSo cl po rc rs rk K 620 lv st σ c n = z_st cl po rc rs rk K (.iconst 5) [] 620 lv st σ c n := (rfl)
set_option maxRecDepth 100000 in
theorem hL_isSo_621 (cl : List zC) (po : Option Value → bS → Nat → Nat → Prop) (rc rs rk : Nat) (K : zK) (lv : List (Nat × Value)) (st : List Value) (σ : bS) (c n : Nat) : z_hd tL_isSo cl po rc rs rk K 621 lv st σ c n = z_st cl po rc rs rk K (.invokevirtual 43) [] 621 lv st σ c n := (rfl)
set_option maxRecDepth 100000 in
theorem hL_isSo_624 (cl : List zC) (po : Option Value → bS → Nat → Nat → Prop) (rc rs rk : Nat) (K : zK) (lv : List (Nat × Value)) (st : List Value) (σ : bS) (c n : Nat) : z_hd tL_isSo cl po rc rs rk K 624 lv st σ c n = z_st cl po rc rs rk K (.iadd) [] 624 lv st σ c n := (rfl)
set_option maxRecDepth 100000 in
theorem hL_isSo_625 (cl : List zC) (po : Option Value → bS → Nat → Nat → Prop) (rc rs rk : Nat) (K : zK) (lv : List (Nat × Value)) (st : List Value) (σ : bS) (c n : Nat) : z_hd tL_isSo cl po rc rs rk K 625 lv st σ c n = z_st cl po rc rs rk K (.istore 9) [] 625 lv st σ c n := (rfl)
set_option maxRecDepth 100000 in
theorem hL_isSo_627 (cl : List zC) (po : Option Value → bS → Nat → Nat → Prop) (rc rs rk : Nat) (K : zK) (lv : List (Nat × Value)) (st : List Value) (σ : bS) (c n : Nat) : z_hd tL_isSo cl po rc rs rk K 627 lv st σ c n = z_st cl po rc rs rk K (.aload_n 0) [] 627 lv st σ c n := (rfl)
set_option maxRecDepth 100000 in
theorem hL_isSo_628 (cl : List zC) (po : Option Value → bS → Nat → Nat → Prop) (rc rs rk : Nat) (K : zK) (lv : List (Nat × Value)) (st : List Value) (σ : bS) (c n : Nat) : z_hd tL_isSo cl po rc rs rk K 628 lv st σ c n = z_st cl po rc rs rk K (.iload 10) [] 628 lv st σ c n := (rfl)
set_option maxRecDepth 100000 in
theorem hL_isSo_630 (cl : List zC) (po : Option Value → bS → Nat → Nat → Prop) (rc rs rk : Nat) (K : zK) (lv : List (Nat × Value)) (st : List Value) (σ : bS) (c n : Nat) : z_hd tL_isSo cl po rc rs rk K 630 lv st σ c n = z_st cl po rc rs rk K (.iconst 2) [] 630 lv st σ c n := (rfl)
set_option maxRecDepth 100000 in
theorem hL_isSo_631 (cl : List zC) (po : Option Value → bS → Nat → Nat → Prop) (rc rs rk : Nat) (K : zK) (lv : List (Nat × Value)) (st : List Value) (σ : bS) (c n : Nat) : z_hd tL_isSo cl po rc rs rk K 631 lv st σ c n = z_st cl po rc rs rk K (.invokevirtual 43) [] 631 lv st σ c n := (rfl)
set_option maxRecDepth 100000 in
theorem hL_isSo_634 (cl : List zC) (po : Option Value → bS → Nat → Nat → Prop) (rc rs rk : Nat) (K : zK) (lv : List (Nat × Value)) (st : List Value) (σ : bS) (c n : Nat) : z_hd tL_isSo cl po rc rs rk K 634 lv st σ c n = z_st cl po rc rs rk K (.ifCond .le 7) [641] 634 lv st σ c n := (rfl)
set_option maxRecDepth 100000 in
theorem hL_isSo_637 (cl : List zC) (po : Option Value → bS → Nat → Nat → Prop) (rc rs rk : Nat) (K : zK) (lv : List (Nat × Value)) (st : List Value) (σ : bS) (c n : Nat) : z_hd tL_isSo cl po rc rs rk K 637 lv st σ c n = z_st cl po rc rs rk K (.iconst 1) [] 637 lv st σ c n := (rfl)
set_option maxRecDepth 100000 in
theorem hL_isSo_638 (cl : List zC) (po : Option Value → bS → Nat → Nat → Prop) (rc rs rk : Nat) (K : zK) (lv : List (Nat × Value)) (st : List Value) (σ : bS) (c n : Nat) : z_hd tL_isSo cl po rc rs rk K 638 lv st σ c n = z_st cl po rc rs rk K (.goto 4) [642] 638 lv st σ c n := (rfl)
set_option maxRecDepth 100000 in
theorem hL_isSo_641 (cl : List zC) (po : Option Value → bS → Nat → Nat → Prop) (rc rs rk : Nat) (K : zK) (lv : List (Nat × Value)) (st : List Value) (σ : bS) (c n : Nat) : z_hd tL_isSo cl po rc rs rk K 641 lv st σ c n = z_st cl po rc rs rk K (.iconst 0) [] 641 lv st σ c n := (rfl)
set_option maxRecDepth 100000 in
theorem hL_isSo_642 (cl : List zC) (po : Option Value → bS → Nat → Nat → Prop) (rc rs rk : Nat) (K : zK) (lv : List (Nat × Value)) (st : List Value) (σ : bS) (c n : Nat) : z_hd tL_isSo cl po rc rs rk K 642 lv st σ c n = z_st cl po rc rs rk K (.aload_n 0) [] 642 lv st σ c n := (rfl)
set_option maxRecDepth 100000 in
theorem hL_isSo_643 (cl : List zC) (po : Option Value → bS → Nat → Nat → Prop) (rc rs rk : Nat) (K : zK) (lv : List (Nat × Value)) (st : List Value) (σ : bS) (c n : Nat) : z_hd tL_isSo cl po rc rs rk K 643 lv st σ c n = z_st cl po rc rs rk K (.iload 10) [] 643 lv st σ c n := (rfl)
set_option maxRecDepth 100000 in
theorem hL_isSo_645 (cl : List zC) (po : Option Value → bS → Nat → Nat → Prop) (rc rs rk : Nat) (K : zK) (lv : List (Nat × Value)) (st : List Value) (σ : bS) (c n : Nat) : z_hd tL_isSo cl po rc rs rk K 645 lv st σ c n = z_st cl po rc rs rk K (.iconst 3) [] 645 lv st σ c n := (rfl)
set_option maxRecDepth 100000 in
theorem hL_isSo_646 (cl : List zC) (po : Option Value → bS → Nat → Nat → Prop) (rc rs rk : Nat) (K : zK) (lv : List (Nat × Value)) (st : List Value) (σ : bS) (c n : Nat) : z_hd tL_isSo cl po rc rs rk K 646 lv st σ c n = z_st cl po rc rs rk K (.invokevirtual 43) [] 646 lv st σ c n := (rfl)
set_option maxRecDepth 100000 in
theorem hL_isSo_649 (cl : List zC) (po : Option Value → bS → Nat → Nat → Prop) (rc rs rk : Nat) (K : zK) (lv : List (Nat × Value)) (st : List Value) (σ : bS) (c n : Nat) : z_hd tL_isSo cl po rc rs rk K 649 lv st σ c n = z_st cl po rc rs rk K (.ifCond .lt 7) [656] 649 lv st σ c n := (rfl)
set_option maxRecDepth 100000 in
theorem hL_isSo_652 (cl : List zC) (po : Option Value → bS → Nat → Nat → Prop) (rc rs rk : Nat) (K : zK) (lv : List (Nat × Value)) (st : List Value) (σ : bS) (c n : Nat) : z_hd tL_isSo cl po rc rs rk K 652 lv st σ c n = z_st cl po rc rs rk K (.iconst 1) [] 652 lv st σ c n := (rfl)
set_option maxRecDepth 100000 in
theorem hL_isSo_653 (cl : List zC) (po : Option Value → bS → Nat → Nat → Prop) (rc rs rk : Nat) (K : zK) (lv : List (Nat × Value)) (st : List Value) (σ : bS) (c n : Nat) : z_hd tL_isSo cl po rc rs rk K 653 lv st σ c n = z_st cl po rc rs rk K (.goto 4) [657] 653 lv st σ c n := (rfl)
set_option maxRecDepth 100000 in
theorem hL_isSo_656 (cl : List zC) (po : Option Value → bS → Nat → Nat → Prop) (rc rs rk : Nat) (K : zK) (lv : List (Nat × Value)) (st : List Value) (σ : bS) (c n : Nat) : z_hd tL_isSo cl po rc rs rk K 656 lv st σ c n = z_st cl po rc rs rk K (.iconst 0) [] 656 lv st σ c n := (rfl)
set_option maxRecDepth 100000 in
theorem hL_isSo_657 (cl : List zC) (po : Option Value → bS → Nat → Nat → Prop) (rc rs rk : Nat) (K : zK) (lv : List (Nat × Value)) (st : List Value) (σ : bS) (c n : Nat) : z_hd tL_isSo cl po rc rs rk K 657 lv st σ c n = z_st cl po rc rs rk K (.if_icmp .ne 30) [687] 657 lv st σ c n := (rfl)
set_option maxRecDepth 100000 in
theorem hL_isSo_660 (cl : List zC) (po : Option Value → bS → Nat → Nat → Prop) (rc rs rk : Nat) (K : zK) (lv : List (Nat × Value)) (st : List Value) (σ : bS) (c n : Nat) : z_hd tL_isSo cl po rc rs rk K 660 lv st σ c n = z_st cl po rc rs rk K (.aload_n 0) [] 660 lv st σ c n := (rfl)
set_option maxRecDepth 100000 in
theorem hL_isSo_661 (cl : List zC) (po : Option Value → bS → Nat → Nat → Prop) (rc rs rk : Nat) (K : zK) (lv : List (Nat × Value)) (st : List Value) (σ : bS) (c n : Nat) : z_hd tL_isSo cl po rc rs rk K 661 lv st σ c n = z_st cl po rc rs rk K (.iload 10) [] 661 lv st σ c n := (rfl)
set_option maxRecDepth 100000 in
theorem hL_isSo_663 (cl : List zC) (po : Option Value → bS → Nat → Nat → Prop) (rc rs rk : Nat) (K : zK) (lv : List (Nat × Value)) (st : List Value) (σ : bS) (c n : Nat) : z_hd tL_isSo cl po rc rs rk K 663 lv st σ c n = z_st cl po rc rs rk K (.iconst 3) [] 663 lv st σ c n := (rfl)
set_option maxRecDepth 100000 in
theorem hL_isSo_664 (cl : List zC) (po : Option Value → bS → Nat → Nat → Prop) (rc rs rk : Nat) (K : zK) (lv : List (Nat × Value)) (st : List Value) (σ : bS) (c n : Nat) : z_hd tL_isSo cl po rc rs rk K 664 lv st σ c n = z_st cl po rc rs rk K (.invokevirtual 43) [] 664 lv st σ c n := (rfl)
set_option maxRecDepth 100000 in
theorem hL_isSo_667 (cl : List zC) (po : Option Value → bS → Nat → Nat → Prop) (rc rs rk : Nat) (K : zK) (lv : List (Nat × Value)) (st : List Value) (σ : bS) (c n : Nat) : z_hd tL_isSo cl po rc rs rk K 667 lv st σ c n = z_st cl po rc rs rk K (.ifCond .lt 22) [689] 667 lv st σ c n := (rfl)
set_option maxRecDepth 100000 in
theorem hL_isSo_670 (cl : List zC) (po : Option Value → bS → Nat → Nat → Prop) (rc rs rk : Nat) (K : zK) (lv : List (Nat × Value)) (st : List Value) (σ : bS) (c n : Nat) : z_hd tL_isSo cl po rc rs rk K 670 lv st σ c n = z_st cl po rc rs rk K (.aload_n 0) [] 670 lv st σ c n := (rfl)
set_option maxRecDepth 100000 in
theorem hL_isSo_671 (cl : List zC) (po : Option Value → bS → Nat → Nat → Prop) (rc rs rk : Nat) (K : zK) (lv : List (Nat × Value)) (st : List Value) (σ : bS) (c n : Nat) : z_hd tL_isSo cl po rc rs rk K 671 lv st σ c n = z_st cl po rc rs rk K (.aload_n 0) [] 671 lv st σ c n := (rfl)
set_option maxRecDepth 100000 in
theorem hL_isSo_672 (cl : List zC) (po : Option Value → bS → Nat → Nat → Prop) (rc rs rk : Nat) (K : zK) (lv : List (Nat × Value)) (st : List Value) (σ : bS) (c n : Nat) : z_hd tL_isSo cl po rc rs rk K 672 lv st σ c n = z_st cl po rc rs rk K (.iload 10) [] 672 lv st σ c n := (rfl)
set_option maxRecDepth 100000 in
theorem hL_isSo_674 (cl : List zC) (po : Option Value → bS → Nat → Nat → Prop) (rc rs rk : Nat) (K : zK) (lv : List (Nat × Value)) (st : List Value) (σ : bS) (c n : Nat) : z_hd tL_isSo cl po rc rs rk K 674 lv st σ c n = z_st cl po rc rs rk K (.iconst 3) [] 674 lv st σ c n := (rfl)
set_option maxRecDepth 100000 in
theorem hL_isSo_675 (cl : List zC) (po : Option Value → bS → Nat → Nat → Prop) (rc rs rk : Nat) (K : zK) (lv : List (Nat × Value)) (st : List Value) (σ : bS) (c n : Nat) : z_hd tL_isSo cl po rc rs rk K 675 lv st σ c n = z_st cl po rc rs rk K (.invokevirtual 43) [] 675 lv st σ c n := (rfl)
set_option maxRecDepth 100000 in
theorem hL_isSo_678 (cl : List zC) (po : Option Value → bS → Nat → Nat → Prop) (rc rs rk : Nat) (K : zK) (lv : List (Nat × Value)) (st : List Value) (σ : bS) (c n : Nat) : z_hd tL_isSo cl po rc rs rk K 678 lv st σ c n = z_st cl po rc rs rk K (.iconst 0) [] 678 lv st σ c n := (rfl)
set_option maxRecDepth 100000 in
theorem hL_isSo_679 (cl : List zC) (po : Option Value → bS → Nat → Nat → Prop) (rc rs rk : Nat) (K : zK) (lv : List (Nat × Value)) (st : List Value) (σ : bS) (c n : Nat) : z_hd tL_isSo cl po rc rs rk K 679 lv st σ c n = z_st cl po rc rs rk K (.invokevirtual 40) [] 679 lv st σ c n := (rfl)
set_option maxRecDepth 100000 in
theorem hL_isSo_682 (cl : List zC) (po : Option Value → bS → Nat → Nat → Prop) (rc rs rk : Nat) (K : zK) (lv : List (Nat × Value)) (st : List Value) (σ : bS) (c n : Nat) : z_hd tL_isSo cl po rc rs rk K 682 lv st σ c n = z_st cl po rc rs rk K (.bipush 6) [] 682 lv st σ c n := (rfl)
set_option maxRecDepth 100000 in
theorem hL_isSo_684 (cl : List zC) (po : Option Value → bS → Nat → Nat → Prop) (rc rs rk : Nat) (K : zK) (lv : List (Nat × Value)) (st : List Value) (σ : bS) (c n : Nat) : z_hd tL_isSo cl po rc rs rk K 684 lv st σ c n = z_st cl po rc rs rk K (.if_icmp .eq 5) [689] 684 lv st σ c n := (rfl)
set_option maxRecDepth 100000 in
theorem hL_isSo_687 (cl : List zC) (po : Option Value → bS → Nat → Nat → Prop) (rc rs rk : Nat) (K : zK) (lv : List (Nat × Value)) (st : List Value) (σ : bS) (c n : Nat) : z_hd tL_isSo cl po rc rs rk K 687 lv st σ c n = z_st cl po rc rs rk K (.iconst 0) [] 687 lv st σ c n := (rfl)
set_option maxRecDepth 100000 in
theorem hL_isSo_688 (cl : List zC) (po : Option Value → bS → Nat → Nat → Prop) (rc rs rk : Nat) (K : zK) (lv : List (Nat × Value)) (st : List Value) (σ : bS) (c n : Nat) : z_hd tL_isSo cl po rc rs rk K 688 lv st σ c n = z_st cl po rc rs rk K (.ireturn) [] 688 lv st σ c n := (rfl)
set_option maxRecDepth 100000 in
theorem hL_isSo_689 (cl : List zC) (po : Option Value → bS → Nat → Nat → Prop) (rc rs rk : Nat) (K : zK) (lv : List (Nat × Value)) (st : List Value) (σ : bS) (c n : Nat) : z_hd tL_isSo cl po rc rs rk K 689 lv st σ c n = z_st cl po rc rs rk K (.iinc 10 1) [] 689 lv st σ c n := (rfl)
set_option maxRecDepth 100000 in
theorem hL_isSo_692 (cl : List zC) (po : Option Value → bS → Nat → Nat → Prop) (rc rs rk : Nat) (K : zK) (lv : List (Nat × Value)) (st : List Value) (σ : bS) (c n : Nat) : z_hd tL_isSo cl po rc rs rk K 692 lv st σ c n = z_st cl po rc rs rk K (.goto (-107)) [585] 692 lv st σ c n := (rfl)
set_option maxRecDepth 100000 in
theorem hL_isSo_695 (cl : List zC) (po : Option Value → bS → Nat → Nat → Prop) (rc rs rk : Nat) (K : zK) (lv : List (Nat × Value)) (st : List Value) (σ : bS) (c n : Nat) : z_hd tL_isSo cl po rc rs rk K 695 lv st σ c n = z_st cl po rc rs rk K (.iload_n 1) [] 695 lv st σ c n := (rfl)
set_option maxRecDepth 100000 in
theorem hL_isSo_696 (cl : List zC) (po : Option Value → bS → Nat → Nat → Prop) (rc rs rk : Nat) (K : zK) (lv : List (Nat × Value)) (st : List Value) (σ : bS) (c n : Nat) : z_hd tL_isSo cl po rc rs rk K 696 lv st σ c n = z_st cl po rc rs rk K (.aload_n 2) [] 696 lv st σ c n := (rfl)
set_option maxRecDepth 100000 in
theorem hL_isSo_697 (cl : List zC) (po : Option Value → bS → Nat → Nat → Prop) (rc rs rk : Nat) (K : zK) (lv : List (Nat × Value)) (st : List Value) (σ : bS) (c n : Nat) : z_hd tL_isSo cl po rc rs rk K 697 lv st σ c n = z_st cl po rc rs rk K (.bipush 9) [] 697 lv st σ c n := (rfl)
set_option maxRecDepth 100000 in
theorem hL_isSo_699 (cl : List zC) (po : Option Value → bS → Nat → Nat → Prop) (rc rs rk : Nat) (K : zK) (lv : List (Nat × Value)) (st : List Value) (σ : bS) (c n : Nat) : z_hd tL_isSo cl po rc rs rk K 699 lv st σ c n = z_st cl po rc rs rk K (.iaload) [] 699 lv st σ c n := (rfl)
set_option maxRecDepth 100000 in
theorem hL_isSo_700 (cl : List zC) (po : Option Value → bS → Nat → Nat → Prop) (rc rs rk : Nat) (K : zK) (lv : List (Nat × Value)) (st : List Value) (σ : bS) (c n : Nat) : z_hd tL_isSo cl po rc rs rk K 700 lv st σ c n = z_st cl po rc rs rk K (.isub) [] 700 lv st σ c n := (rfl)
set_option maxRecDepth 100000 in
theorem hL_isSo_701 (cl : List zC) (po : Option Value → bS → Nat → Nat → Prop) (rc rs rk : Nat) (K : zK) (lv : List (Nat × Value)) (st : List Value) (σ : bS) (c n : Nat) : z_hd tL_isSo cl po rc rs rk K 701 lv st σ c n = z_st cl po rc rs rk K (.aload_n 2) [] 701 lv st σ c n := (rfl)
set_option maxRecDepth 100000 in
theorem hL_isSo_702 (cl : List zC) (po : Option Value → bS → Nat → Nat → Prop) (rc rs rk : Nat) (K : zK) (lv : List (Nat × Value)) (st : List Value) (σ : bS) (c n : Nat) : z_hd tL_isSo cl po rc rs rk K 702 lv st σ c n = z_st cl po rc rs rk K (.bipush 10) [] 702 lv st σ c n := (rfl)
set_option maxRecDepth 100000 in
theorem hL_isSo_704 (cl : List zC) (po : Option Value → bS → Nat → Nat → Prop) (rc rs rk : Nat) (K : zK) (lv : List (Nat × Value)) (st : List Value) (σ : bS) (c n : Nat) : z_hd tL_isSo cl po rc rs rk K 704 lv st σ c n = z_st cl po rc rs rk K (.iaload) [] 704 lv st σ c n := (rfl)
set_option maxRecDepth 100000 in
theorem hL_isSo_705 (cl : List zC) (po : Option Value → bS → Nat → Nat → Prop) (rc rs rk : Nat) (K : zK) (lv : List (Nat × Value)) (st : List Value) (σ : bS) (c n : Nat) : z_hd tL_isSo cl po rc rs rk K 705 lv st σ c n = z_st cl po rc rs rk K (.isub) [] 705 lv st σ c n := (rfl)
set_option maxRecDepth 100000 in
theorem hL_isSo_706 (cl : List zC) (po : Option Value → bS → Nat → Nat → Prop) (rc rs rk : Nat) (K : zK) (lv : List (Nat × Value)) (st : List Value) (σ : bS) (c n : Nat) : z_hd tL_isSo cl po rc rs rk K 706 lv st σ c n = z_st cl po rc rs rk K (.istore 10) [] 706 lv st σ c n := (rfl)
set_option maxRecDepth 100000 in
theorem hL_isSo_708 (cl : List zC) (po : Option Value → bS → Nat → Nat → Prop) (rc rs rk : Nat) (K : zK) (lv : List (Nat × Value)) (st : List Value) (σ : bS) (c n : Nat) : z_hd tL_isSo cl po rc rs rk K 708 lv st σ c n = z_st cl po rc rs rk K (.aload_n 0) [] 708 lv st σ c n := (rfl)
set_option maxRecDepth 100000 in
theorem hL_isSo_709 (cl : List zC) (po : Option Value → bS → Nat → Nat → Prop) (rc rs rk : Nat) (K : zK) (lv : List (Nat × Value)) (st : List Value) (σ : bS) (c n : Nat) : z_hd tL_isSo cl po rc rs rk K 709 lv st σ c n = z_st cl po rc rs rk K (.iconst (-1)) [] 709 lv st σ c n := (rfl)
set_option maxRecDepth 100000 in
theorem hL_isSo_710 (cl : List zC) (po : Option Value → bS → Nat → Nat → Prop) (rc rs rk : Nat) (K : zK) (lv : List (Nat × Value)) (st : List Value) (σ : bS) (c n : Nat) : z_hd tL_isSo cl po rc rs rk K 710 lv st σ c n = z_st cl po rc rs rk K (.aload_n 2) [] 710 lv st σ c n := (rfl)
set_option maxRecDepth 100000 in
theorem hL_isSo_711 (cl : List zC) (po : Option Value → bS → Nat → Nat → Prop) (rc rs rk : Nat) (K : zK) (lv : List (Nat × Value)) (st : List Value) (σ : bS) (c n : Nat) : z_hd tL_isSo cl po rc rs rk K 711 lv st σ c n = z_st cl po rc rs rk K (.iconst 5) [] 711 lv st σ c n := (rfl)
set_option maxRecDepth 100000 in
theorem hL_isSo_712 (cl : List zC) (po : Option Value → bS → Nat → Nat → Prop) (rc rs rk : Nat) (K : zK) (lv : List (Nat × Value)) (st : List Value) (σ : bS) (c n : Nat) : z_hd tL_isSo cl po rc rs rk K 712 lv st σ c n = z_st cl po rc rs rk K (.iaload) [] 712 lv st σ c n := (rfl)
set_option maxRecDepth 100000 in
theorem hL_isSo_713 (cl : List zC) (po : Option Value → bS → Nat → Nat → Prop) (rc rs rk : Nat) (K : zK) (lv : List (Nat × Value)) (st : List Value) (σ : bS) (c n : Nat) : z_hd tL_isSo cl po rc rs rk K 713 lv st σ c n = z_st cl po rc rs rk K (.invokevirtual 110) [] 713 lv st σ c n := (rfl)
set_option maxRecDepth 100000 in
theorem hL_isSo_716 (cl : List zC) (po : Option Value → bS → Nat → Nat → Prop) (rc rs rk : Nat) (K : zK) (lv : List (Nat × Value)) (st : List Value) (σ : bS) (c n : Nat) : z_hd tL_isSo cl po rc rs rk K 716 lv st σ c n = z_st cl po rc rs rk K (.iconst (-1)) [] 716 lv st σ c n := (rfl)
set_option maxRecDepth 100000 in
theorem hL_isSo_717 (cl : List zC) (po : Option Value → bS → Nat → Nat → Prop) (rc rs rk : Nat) (K : zK) (lv : List (Nat × Value)) (st : List Value) (σ : bS) (c n : Nat) : z_hd tL_isSo cl po rc rs rk K 717 lv st σ c n = z_st cl po rc rs rk K (.if_icmp .ne 105) [822] 717 lv st σ c n := (rfl)
set_option maxRecDepth 100000 in
theorem hL_isSo_720 (cl : List zC) (po : Option Value → bS → Nat → Nat → Prop) (rc rs rk : Nat) (K : zK) (lv : List (Nat × Value)) (st : List Value) (σ : bS) (c n : Nat) : z_hd tL_isSo cl po rc rs rk K 720 lv st σ c n = z_st cl po rc rs rk K (.iload 7) [] 720 lv st σ c n := (rfl)
set_option maxRecDepth 100000 in
theorem hL_isSo_722 (cl : List zC) (po : Option Value → bS → Nat → Nat → Prop) (rc rs rk : Nat) (K : zK) (lv : List (Nat × Value)) (st : List Value) (σ : bS) (c n : Nat) : z_hd tL_isSo cl po rc rs rk K 722 lv st σ c n = z_st cl po rc rs rk K (.aload_n 2) [] 722 lv st σ c n := (rfl)
set_option maxRecDepth 100000 in
theorem hL_isSo_723 (cl : List zC) (po : Option Value → bS → Nat → Nat → Prop) (rc rs rk : Nat) (K : zK) (lv : List (Nat × Value)) (st : List Value) (σ : bS) (c n : Nat) : z_hd tL_isSo cl po rc rs rk K 723 lv st σ c n = z_st cl po rc rs rk K (.bipush 6) [] 723 lv st σ c n := (rfl)
set_option maxRecDepth 100000 in
theorem hL_isSo_725 (cl : List zC) (po : Option Value → bS → Nat → Nat → Prop) (rc rs rk : Nat) (K : zK) (lv : List (Nat × Value)) (st : List Value) (σ : bS) (c n : Nat) : z_hd tL_isSo cl po rc rs rk K 725 lv st σ c n = z_st cl po rc rs rk K (.iaload) [] 725 lv st σ c n := (rfl)
set_option maxRecDepth 100000 in
theorem hL_isSo_726 (cl : List zC) (po : Option Value → bS → Nat → Nat → Prop) (rc rs rk : Nat) (K : zK) (lv : List (Nat × Value)) (st : List Value) (σ : bS) (c n : Nat) : z_hd tL_isSo cl po rc rs rk K 726 lv st σ c n = z_st cl po rc rs rk K (.if_icmp .ne 96) [822] 726 lv st σ c n := (rfl)
set_option maxRecDepth 100000 in
theorem hL_isSo_729 (cl : List zC) (po : Option Value → bS → Nat → Nat → Prop) (rc rs rk : Nat) (K : zK) (lv : List (Nat × Value)) (st : List Value) (σ : bS) (c n : Nat) : z_hd tL_isSo cl po rc rs rk K 729 lv st σ c n = z_st cl po rc rs rk K (.iload 8) [] 729 lv st σ c n := (rfl)
set_option maxRecDepth 100000 in
theorem hL_isSo_731 (cl : List zC) (po : Option Value → bS → Nat → Nat → Prop) (rc rs rk : Nat) (K : zK) (lv : List (Nat × Value)) (st : List Value) (σ : bS) (c n : Nat) : z_hd tL_isSo cl po rc rs rk K 731 lv st σ c n = z_st cl po rc rs rk K (.aload_n 2) [] 731 lv st σ c n := (rfl)
set_option maxRecDepth 100000 in
theorem hL_isSo_732 (cl : List zC) (po : Option Value → bS → Nat → Nat → Prop) (rc rs rk : Nat) (K : zK) (lv : List (Nat × Value)) (st : List Value) (σ : bS) (c n : Nat) : z_hd tL_isSo cl po rc rs rk K 732 lv st σ c n = z_st cl po rc rs rk K (.bipush 8) [] 732 lv st σ c n := (rfl)
set_option maxRecDepth 100000 in
theorem hL_isSo_734 (cl : List zC) (po : Option Value → bS → Nat → Nat → Prop) (rc rs rk : Nat) (K : zK) (lv : List (Nat × Value)) (st : List Value) (σ : bS) (c n : Nat) : z_hd tL_isSo cl po rc rs rk K 734 lv st σ c n = z_st cl po rc rs rk K (.iaload) [] 734 lv st σ c n := (rfl)
set_option maxRecDepth 100000 in
theorem hL_isSo_735 (cl : List zC) (po : Option Value → bS → Nat → Nat → Prop) (rc rs rk : Nat) (K : zK) (lv : List (Nat × Value)) (st : List Value) (σ : bS) (c n : Nat) : z_hd tL_isSo cl po rc rs rk K 735 lv st σ c n = z_st cl po rc rs rk K (.if_icmp .ne 87) [822] 735 lv st σ c n := (rfl)
set_option maxRecDepth 100000 in
theorem hL_isSo_738 (cl : List zC) (po : Option Value → bS → Nat → Nat → Prop) (rc rs rk : Nat) (K : zK) (lv : List (Nat × Value)) (st : List Value) (σ : bS) (c n : Nat) : z_hd tL_isSo cl po rc rs rk K 738 lv st σ c n = z_st cl po rc rs rk K (.iload 9) [] 738 lv st σ c n := (rfl)
set_option maxRecDepth 100000 in
theorem hL_isSo_740 (cl : List zC) (po : Option Value → bS → Nat → Nat → Prop) (rc rs rk : Nat) (K : zK) (lv : List (Nat × Value)) (st : List Value) (σ : bS) (c n : Nat) : z_hd tL_isSo cl po rc rs rk K 740 lv st σ c n = z_st cl po rc rs rk K (.aload_n 2) [] 740 lv st σ c n := (rfl)
set_option maxRecDepth 100000 in
theorem hL_isSo_741 (cl : List zC) (po : Option Value → bS → Nat → Nat → Prop) (rc rs rk : Nat) (K : zK) (lv : List (Nat × Value)) (st : List Value) (σ : bS) (c n : Nat) : z_hd tL_isSo cl po rc rs rk K 741 lv st σ c n = z_st cl po rc rs rk K (.bipush 9) [] 741 lv st σ c n := (rfl)
set_option maxRecDepth 100000 in
theorem hL_isSo_743 (cl : List zC) (po : Option Value → bS → Nat → Nat → Prop) (rc rs rk : Nat) (K : zK) (lv : List (Nat × Value)) (st : List Value) (σ : bS) (c n : Nat) : z_hd tL_isSo cl po rc rs rk K 743 lv st σ c n = z_st cl po rc rs rk K (.iaload) [] 743 lv st σ c n := (rfl)
set_option maxRecDepth 100000 in
theorem hL_isSo_744 (cl : List zC) (po : Option Value → bS → Nat → Nat → Prop) (rc rs rk : Nat) (K : zK) (lv : List (Nat × Value)) (st : List Value) (σ : bS) (c n : Nat) : z_hd tL_isSo cl po rc rs rk K 744 lv st σ c n = z_st cl po rc rs rk K (.if_icmp .ne 78) [822] 744 lv st σ c n := (rfl)
set_option maxRecDepth 100000 in
theorem hL_isSo_747 (cl : List zC) (po : Option Value → bS → Nat → Nat → Prop) (rc rs rk : Nat) (K : zK) (lv : List (Nat × Value)) (st : List Value) (σ : bS) (c n : Nat) : z_hd tL_isSo cl po rc rs rk K 747 lv st σ c n = z_st cl po rc rs rk K (.aload_n 0) [] 747 lv st σ c n := (rfl)
set_option maxRecDepth 100000 in
theorem hL_isSo_748 (cl : List zC) (po : Option Value → bS → Nat → Nat → Prop) (rc rs rk : Nat) (K : zK) (lv : List (Nat × Value)) (st : List Value) (σ : bS) (c n : Nat) : z_hd tL_isSo cl po rc rs rk K 748 lv st σ c n = z_st cl po rc rs rk K (.bipush 17) [] 748 lv st σ c n := (rfl)
set_option maxRecDepth 100000 in
theorem hL_isSo_750 (cl : List zC) (po : Option Value → bS → Nat → Nat → Prop) (rc rs rk : Nat) (K : zK) (lv : List (Nat × Value)) (st : List Value) (σ : bS) (c n : Nat) : z_hd tL_isSo cl po rc rs rk K 750 lv st σ c n = z_st cl po rc rs rk K (.invokevirtual 28) [] 750 lv st σ c n := (rfl)
set_option maxRecDepth 100000 in
theorem hL_isSo_753 (cl : List zC) (po : Option Value → bS → Nat → Nat → Prop) (rc rs rk : Nat) (K : zK) (lv : List (Nat × Value)) (st : List Value) (σ : bS) (c n : Nat) : z_hd tL_isSo cl po rc rs rk K 753 lv st σ c n = z_st cl po rc rs rk K (.iload 6) [] 753 lv st σ c n := (rfl)
set_option maxRecDepth 100000 in
theorem hL_isSo_755 (cl : List zC) (po : Option Value → bS → Nat → Nat → Prop) (rc rs rk : Nat) (K : zK) (lv : List (Nat × Value)) (st : List Value) (σ : bS) (c n : Nat) : z_hd tL_isSo cl po rc rs rk K 755 lv st σ c n = z_st cl po rc rs rk K (.if_icmp .ne 67) [822] 755 lv st σ c n := (rfl)
set_option maxRecDepth 100000 in
theorem hL_isSo_758 (cl : List zC) (po : Option Value → bS → Nat → Nat → Prop) (rc rs rk : Nat) (K : zK) (lv : List (Nat × Value)) (st : List Value) (σ : bS) (c n : Nat) : z_hd tL_isSo cl po rc rs rk K 758 lv st σ c n = z_st cl po rc rs rk K (.aload_n 0) [] 758 lv st σ c n := (rfl)
set_option maxRecDepth 100000 in
theorem hL_isSo_759 (cl : List zC) (po : Option Value → bS → Nat → Nat → Prop) (rc rs rk : Nat) (K : zK) (lv : List (Nat × Value)) (st : List Value) (σ : bS) (c n : Nat) : z_hd tL_isSo cl po rc rs rk K 759 lv st σ c n = z_st cl po rc rs rk K (.bipush 18) [] 759 lv st σ c n := (rfl)
set_option maxRecDepth 100000 in
theorem hL_isSo_761 (cl : List zC) (po : Option Value → bS → Nat → Nat → Prop) (rc rs rk : Nat) (K : zK) (lv : List (Nat × Value)) (st : List Value) (σ : bS) (c n : Nat) : z_hd tL_isSo cl po rc rs rk K 761 lv st σ c n = z_st cl po rc rs rk K (.invokevirtual 28) [] 761 lv st σ c n := (rfl)
set_option maxRecDepth 100000 in
theorem hL_isSo_764 (cl : List zC) (po : Option Value → bS → Nat → Nat → Prop) (rc rs rk : Nat) (K : zK) (lv : List (Nat × Value)) (st : List Value) (σ : bS) (c n : Nat) : z_hd tL_isSo cl po rc rs rk K 764 lv st σ c n = z_st cl po rc rs rk K (.iload 4) [] 764 lv st σ c n := (rfl)
set_option maxRecDepth 100000 in
theorem hL_isSo_766 (cl : List zC) (po : Option Value → bS → Nat → Nat → Prop) (rc rs rk : Nat) (K : zK) (lv : List (Nat × Value)) (st : List Value) (σ : bS) (c n : Nat) : z_hd tL_isSo cl po rc rs rk K 766 lv st σ c n = z_st cl po rc rs rk K (.if_icmp .ne 56) [822] 766 lv st σ c n := (rfl)
set_option maxRecDepth 100000 in
theorem hL_isSo_769 (cl : List zC) (po : Option Value → bS → Nat → Nat → Prop) (rc rs rk : Nat) (K : zK) (lv : List (Nat × Value)) (st : List Value) (σ : bS) (c n : Nat) : z_hd tL_isSo cl po rc rs rk K 769 lv st σ c n = z_st cl po rc rs rk K (.aload_n 0) [] 769 lv st σ c n := (rfl)
set_option maxRecDepth 100000 in
theorem hL_isSo_770 (cl : List zC) (po : Option Value → bS → Nat → Nat → Prop) (rc rs rk : Nat) (K : zK) (lv : List (Nat × Value)) (st : List Value) (σ : bS) (c n : Nat) : z_hd tL_isSo cl po rc rs rk K 770 lv st σ c n = z_st cl po rc rs rk K (.bipush 15) [] 770 lv st σ c n := (rfl)
set_option maxRecDepth 100000 in
theorem hL_isSo_772 (cl : List zC) (po : Option Value → bS → Nat → Nat → Prop) (rc rs rk : Nat) (K : zK) (lv : List (Nat × Value)) (st : List Value) (σ : bS) (c n : Nat) : z_hd tL_isSo cl po rc rs rk K 772 lv st σ c n = z_st cl po rc rs rk K (.invokevirtual 28) [] 772 lv st σ c n := (rfl)
set_option maxRecDepth 100000 in
theorem hL_isSo_775 (cl : List zC) (po : Option Value → bS → Nat → Nat → Prop) (rc rs rk : Nat) (K : zK) (lv : List (Nat × Value)) (st : List Value) (σ : bS) (c n : Nat) : z_hd tL_isSo cl po rc rs rk K 775 lv st σ c n = z_st cl po rc rs rk K (.ifCond .le 7) [782] 775 lv st σ c n := (rfl)
set_option maxRecDepth 100000 in
theorem hL_isSo_778 (cl : List zC) (po : Option Value → bS → Nat → Nat → Prop) (rc rs rk : Nat) (K : zK) (lv : List (Nat × Value)) (st : List Value) (σ : bS) (c n : Nat) : z_hd tL_isSo cl po rc rs rk K 778 lv st σ c n = z_st cl po rc rs rk K (.iconst 1) [] 778 lv st σ c n := (rfl)
set_option maxRecDepth 100000 in
theorem hL_isSo_779 (cl : List zC) (po : Option Value → bS → Nat → Nat → Prop) (rc rs rk : Nat) (K : zK) (lv : List (Nat × Value)) (st : List Value) (σ : bS) (c n : Nat) : z_hd tL_isSo cl po rc rs rk K 779 lv st σ c n = z_st cl po rc rs rk K (.goto 4) [783] 779 lv st σ c n := (rfl)
set_option maxRecDepth 100000 in
theorem hL_isSo_782 (cl : List zC) (po : Option Value → bS → Nat → Nat → Prop) (rc rs rk : Nat) (K : zK) (lv : List (Nat × Value)) (st : List Value) (σ : bS) (c n : Nat) : z_hd tL_isSo cl po rc rs rk K 782 lv st σ c n = z_st cl po rc rs rk K (.iconst 0) [] 782 lv st σ c n := (rfl)
set_option maxRecDepth 100000 in
theorem hL_isSo_783 (cl : List zC) (po : Option Value → bS → Nat → Nat → Prop) (rc rs rk : Nat) (K : zK) (lv : List (Nat × Value)) (st : List Value) (σ : bS) (c n : Nat) : z_hd tL_isSo cl po rc rs rk K 783 lv st σ c n = z_st cl po rc rs rk K (.iload 8) [] 783 lv st σ c n := (rfl)
set_option maxRecDepth 100000 in
theorem hL_isSo_785 (cl : List zC) (po : Option Value → bS → Nat → Nat → Prop) (rc rs rk : Nat) (K : zK) (lv : List (Nat × Value)) (st : List Value) (σ : bS) (c n : Nat) : z_hd tL_isSo cl po rc rs rk K 785 lv st σ c n = z_st cl po rc rs rk K (.ifCond .le 7) [792] 785 lv st σ c n := (rfl)
set_option maxRecDepth 100000 in
theorem hL_isSo_788 (cl : List zC) (po : Option Value → bS → Nat → Nat → Prop) (rc rs rk : Nat) (K : zK) (lv : List (Nat × Value)) (st : List Value) (σ : bS) (c n : Nat) : z_hd tL_isSo cl po rc rs rk K 788 lv st σ c n = z_st cl po rc rs rk K (.iconst 1) [] 788 lv st σ c n := (rfl)
set_option maxRecDepth 100000 in
theorem hL_isSo_789 (cl : List zC) (po : Option Value → bS → Nat → Nat → Prop) (rc rs rk : Nat) (K : zK) (lv : List (Nat × Value)) (st : List Value) (σ : bS) (c n : Nat) : z_hd tL_isSo cl po rc rs rk K 789 lv st σ c n = z_st cl po rc rs rk K (.goto 4) [793] 789 lv st σ c n := (rfl)
set_option maxRecDepth 100000 in
theorem hL_isSo_792 (cl : List zC) (po : Option Value → bS → Nat → Nat → Prop) (rc rs rk : Nat) (K : zK) (lv : List (Nat × Value)) (st : List Value) (σ : bS) (c n : Nat) : z_hd tL_isSo cl po rc rs rk K 792 lv st σ c n = z_st cl po rc rs rk K (.iconst 0) [] 792 lv st σ c n := (rfl)
set_option maxRecDepth 100000 in
theorem hL_isSo_793 (cl : List zC) (po : Option Value → bS → Nat → Nat → Prop) (rc rs rk : Nat) (K : zK) (lv : List (Nat × Value)) (st : List Value) (σ : bS) (c n : Nat) : z_hd tL_isSo cl po rc rs rk K 793 lv st σ c n = z_st cl po rc rs rk K (.if_icmp .ne 29) [822] 793 lv st σ c n := (rfl)
set_option maxRecDepth 100000 in
theorem hL_isSo_796 (cl : List zC) (po : Option Value → bS → Nat → Nat → Prop) (rc rs rk : Nat) (K : zK) (lv : List (Nat × Value)) (st : List Value) (σ : bS) (c n : Nat) : z_hd tL_isSo cl po rc rs rk K 796 lv st σ c n = z_st cl po rc rs rk K (.aload_n 0) [] 796 lv st σ c n := (rfl)
set_option maxRecDepth 100000 in
theorem hL_isSo_797 (cl : List zC) (po : Option Value → bS → Nat → Nat → Prop) (rc rs rk : Nat) (K : zK) (lv : List (Nat × Value)) (st : List Value) (σ : bS) (c n : Nat) : z_hd tL_isSo cl po rc rs rk K 797 lv st σ c n = z_st cl po rc rs rk K (.invokevirtual 113) [] 797 lv st σ c n := (rfl)
set_option maxRecDepth 100000 in
theorem hL_isSo_800 (cl : List zC) (po : Option Value → bS → Nat → Nat → Prop) (rc rs rk : Nat) (K : zK) (lv : List (Nat × Value)) (st : List Value) (σ : bS) (c n : Nat) : z_hd tL_isSo cl po rc rs rk K 800 lv st σ c n = z_st cl po rc rs rk K (.iload 10) [] 800 lv st σ c n := (rfl)
set_option maxRecDepth 100000 in
theorem hL_isSo_802 (cl : List zC) (po : Option Value → bS → Nat → Nat → Prop) (rc rs rk : Nat) (K : zK) (lv : List (Nat × Value)) (st : List Value) (σ : bS) (c n : Nat) : z_hd tL_isSo cl po rc rs rk K 802 lv st σ c n = z_st cl po rc rs rk K (.i2d) [] 802 lv st σ c n := (rfl)
set_option maxRecDepth 100000 in
theorem hL_isSo_803 (cl : List zC) (po : Option Value → bS → Nat → Nat → Prop) (rc rs rk : Nat) (K : zK) (lv : List (Nat × Value)) (st : List Value) (σ : bS) (c n : Nat) : z_hd tL_isSo cl po rc rs rk K 803 lv st σ c n = z_st cl po rc rs rk K (.dmul) [] 803 lv st σ c n := (rfl)
set_option maxRecDepth 100000 in
theorem hL_isSo_804 (cl : List zC) (po : Option Value → bS → Nat → Nat → Prop) (rc rs rk : Nat) (K : zK) (lv : List (Nat × Value)) (st : List Value) (σ : bS) (c n : Nat) : z_hd tL_isSo cl po rc rs rk K 804 lv st σ c n = z_st cl po rc rs rk K (.iload 5) [] 804 lv st σ c n := (rfl)
set_option maxRecDepth 100000 in
theorem hL_isSo_806 (cl : List zC) (po : Option Value → bS → Nat → Nat → Prop) (rc rs rk : Nat) (K : zK) (lv : List (Nat × Value)) (st : List Value) (σ : bS) (c n : Nat) : z_hd tL_isSo cl po rc rs rk K 806 lv st σ c n = z_st cl po rc rs rk K (.i2d) [] 806 lv st σ c n := (rfl)
set_option maxRecDepth 100000 in
theorem hL_isSo_807 (cl : List zC) (po : Option Value → bS → Nat → Nat → Prop) (rc rs rk : Nat) (K : zK) (lv : List (Nat × Value)) (st : List Value) (σ : bS) (c n : Nat) : z_hd tL_isSo cl po rc rs rk K 807 lv st σ c n = z_st cl po rc rs rk K (.dsub) [] 807 lv st σ c n := (rfl)
set_option maxRecDepth 100000 in
theorem hL_isSo_808 (cl : List zC) (po : Option Value → bS → Nat → Nat → Prop) (rc rs rk : Nat) (K : zK) (lv : List (Nat × Value)) (st : List Value) (σ : bS) (c n : Nat) : z_hd tL_isSo cl po rc rs rk K 808 lv st σ c n = z_st cl po rc rs rk K (.invokestatic 117) [] 808 lv st σ c n := (rfl)
set_option maxRecDepth 100000 in
theorem hL_isSo_811 (cl : List zC) (po : Option Value → bS → Nat → Nat → Prop) (rc rs rk : Nat) (K : zK) (lv : List (Nat × Value)) (st : List Value) (σ : bS) (c n : Nat) : z_hd tL_isSo cl po rc rs rk K 811 lv st σ c n = z_st cl po rc rs rk K (.ldc2_w 121) [4547007122018943789, 0] 811 lv st σ c n := (rfl)
set_option maxRecDepth 100000 in
theorem hL_isSo_814 (cl : List zC) (po : Option Value → bS → Nat → Nat → Prop) (rc rs rk : Nat) (K : zK) (lv : List (Nat × Value)) (st : List Value) (σ : bS) (c n : Nat) : z_hd tL_isSo cl po rc rs rk K 814 lv st σ c n = z_st cl po rc rs rk K (.dcmp .g) [] 814 lv st σ c n := (rfl)
set_option maxRecDepth 100000 in
theorem hL_isSo_815 (cl : List zC) (po : Option Value → bS → Nat → Nat → Prop) (rc rs rk : Nat) (K : zK) (lv : List (Nat × Value)) (st : List Value) (σ : bS) (c n : Nat) : z_hd tL_isSo cl po rc rs rk K 815 lv st σ c n = z_st cl po rc rs rk K (.ifCond .ge 7) [822] 815 lv st σ c n := (rfl)
set_option maxRecDepth 100000 in
theorem hL_isSo_818 (cl : List zC) (po : Option Value → bS → Nat → Nat → Prop) (rc rs rk : Nat) (K : zK) (lv : List (Nat × Value)) (st : List Value) (σ : bS) (c n : Nat) : z_hd tL_isSo cl po rc rs rk K 818 lv st σ c n = z_st cl po rc rs rk K (.iconst 1) [] 818 lv st σ c n := (rfl)
set_option maxRecDepth 100000 in
theorem hL_isSo_819 (cl : List zC) (po : Option Value → bS → Nat → Nat → Prop) (rc rs rk : Nat) (K : zK) (lv : List (Nat × Value)) (st : List Value) (σ : bS) (c n : Nat) : z_hd tL_isSo cl po rc rs rk K 819 lv st σ c n = z_st cl po rc rs rk K (.goto 4) [823] 819 lv st σ c n := (rfl)
set_option maxRecDepth 100000 in
theorem hL_isSo_822 (cl : List zC) (po : Option Value → bS → Nat → Nat → Prop) (rc rs rk : Nat) (K : zK) (lv : List (Nat × Value)) (st : List Value) (σ : bS) (c n : Nat) : z_hd tL_isSo cl po rc rs rk K 822 lv st σ c n = z_st cl po rc rs rk K (.iconst 0) [] 822 lv st σ c n := (rfl)
set_option maxRecDepth 100000 in
theorem hL_isSo_823 (cl : List zC) (po : Option Value → bS → Nat → Nat → Prop) (rc rs rk : Nat) (K : zK) (lv : List (Nat × Value)) (st : List Value) (σ : bS) (c n : Nat) : z_hd tL_isSo cl po rc rs rk K 823 lv st σ c n = z_st cl po rc rs rk K (.ireturn) [] 823 lv st σ c n := (rfl)
