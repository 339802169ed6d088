/-! code tables of X0 -/
def kd_X0_answer : Nat → Option qq_I := fun pc => cond (Nat.ble 10 pc) (cond (Nat.ble 13 pc) (cond (Nat.ble 15 pc) (cond (Nat.ble 17 pc) (cond (Nat.beq pc 17) (some (.ireturn, 18, 0, .null)) none) (cond (Nat.beq pc 15) (some (.bipush (-3), 17, 0, .int (-3))) none)) (cond (Nat.ble 14 pc) (cond (Nat.beq pc 14) (some (.iastore, 15, 0, .null)) none) (cond (Nat.beq pc 13) (some (.iadd, 14, 0, .null)) none))) (cond (Nat.ble 11 pc) (cond (Nat.ble 12 pc) (cond (Nat.beq pc 12) (some (.iconst 1, 13, 0, .int 1)) none) (cond (Nat.beq pc 11) (some (.iaload, 12, 0, .null)) none)) (cond (Nat.beq pc 10) (some (.dup2, 11, 0, .null)) none))) (cond (Nat.ble 5 pc) (cond (Nat.ble 6 pc) (cond (Nat.ble 9 pc) (cond (Nat.beq pc 9) (some (.iload_n 1, 10, 1, .null)) none) (cond (Nat.beq pc 6) (some (.getfield 9, 9, 0, .retAddr 0)) none)) (cond (Nat.beq pc 5) (some (.aload_n 0, 6, 0, .null)) none)) (cond (Nat.ble 1 pc) (cond (Nat.ble 2 pc) (cond (Nat.beq pc 2) (some (.putfield 15, 5, 1, .retAddr 0)) none) (cond (Nat.beq pc 1) (some (.iload_n 1, 2, 1, .null)) none)) (cond (Nat.beq pc 0) (some (.aload_n 0, 1, 0, .null)) none)))
def ki_X0_answer : List Instr := []
set_option maxRecDepth 100000 in
theorem kc_X0_answer : qq_cks RX0 ww_B wt_X0 2 cX0_answer kd_X0_answer 18 = true := by decide +kernel
set_option maxRecDepth 100000 in
theorem kv_X0_answer : qq_ivs ki_X0_answer kd_X0_answer 18 = true := by decide +kernel
set_option maxRecDepth 100000 in
theorem kg_X0_answer : qq_gss ww_B RX0 RX7 ww_zs kd_X0_answer 18 = true := by decide +kernel
