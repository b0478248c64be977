/-! THE LAW'S START: the world there; whole_start out of a pure statement on the small machine -/
noncomputable def zNar : List Cond := flatC (Jvm.Cond.and given_1 narrow_1)
def zSt (q : String × Nat × String × Nat) : Term := .string q.1 q.2.1
noncomputable def zckT (q : String × Nat × String × Nat) (bs : List Int32) : Bool :=
  decide (Cond.eq (.field (zSt q) "java/lang/String" "coder" "B") (.int 0) ∈ zNar) && decide (Cond.arrayOf (.field (zSt q) "java/lang/String" "value" "[B") .byte ∈ zNar) && decide (Cond.eq (.length (.field (zSt q) "java/lang/String" "value" "[B")) (.int (Int32.ofNat bs.length)) ∈ zNar) && Nat.blt bs.length 1000 &&
  (List.range bs.length).all (fun j => decide (Cond.eq (.elem (.field (zSt q) "java/lang/String" "value" "[B") (.int (Int32.ofNat j))) (.int (bs.getD j 0)) ∈ zNar))
noncomputable def zckTi (i : Nat) : Bool := match zSx[i]?, zTx[i]? with
  | some q, some bs => zckT q bs
  | _, _ => false
theorem zT_all : (List.range 18).all zckTi = true := by decide +kernel
noncomputable def zckE (i : Nat) : Bool := match zSx[i]?, zSxp[i]? with
  | some q, some p => decide (Cond.exactly (zSt q) "java/lang/String" ∈ zNar) && decide (zword p = some (.stringRef q.1 q.2.1 q.2.2.1)) && decide (q.2.2.2 = 2 * i + 1)
  | _, _ => false
theorem zE_all : (List.range 29).all zckE = true := by decide +kernel
theorem zSx_len : zSx.length = 29 := by decide +kernel
theorem zTx_len : zTx.length = 18 := by decide +kernel
theorem zL_word : decide (zword (zLs.getD 0 0) = some (.laysStatic "java/lang/String" "COMPACT_STRINGS" "Z")) && decide (zword (zLs.getD 1 0) = some (.laysStatic "jdk/internal/util/Preconditions" "SIOOBE_FORMATTER" "Ljava/util/function/BiFunction;")) && decide (zword (zLs.getD 2 0) = some (.laysStatic Bundle.tN "UNASSIGNED_STACK" Bundle.steD)) && decide (zword (zLs.getD 3 0) = some (.laysStatic Bundle.tN "SUPPRESSED_SENTINEL" Bundle.listD)) && decide (zword (zLs.getD 4 0) = some (.initialized "java/lang/String")) && decide (zword (zLs.getD 5 0) = some (.initialized "jdk/internal/util/Preconditions")) && decide (zword (zLs.getD 6 0) = some (.initialized Bundle.tN)) = true := by decide +kernel
theorem zN_nar : Cond.eq (.static "java/lang/String" "COMPACT_STRINGS" "Z") (.int 1) ∈ zNar ∧ Cond.isRef (.static "jdk/internal/util/Preconditions" "SIOOBE_FORMATTER" "Ljava/util/function/BiFunction;") ∈ zNar ∧ Cond.isRef (.static Bundle.tN "UNASSIGNED_STACK" Bundle.steD) ∈ zNar ∧ Cond.isRef (.static Bundle.tN "SUPPRESSED_SENTINEL" Bundle.listD) ∈ zNar ∧ Cond.not (.castable "java/util/NoSuchElementException" "java/lang/IllegalArgumentException") ∈ zNar ∧ Cond.not (.castable "java/lang/IllegalArgumentException" "java/util/NoSuchElementException") ∈ zNar := by decide +kernel
theorem zWb_all : (zWb.zip zWbp).all (fun q => decide (zword q.2 = some q.1) && z_wb q.1) = true ∧ zWb.length = zWbp.length := by decide +kernel
