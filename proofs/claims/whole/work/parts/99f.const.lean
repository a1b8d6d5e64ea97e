/-! ===== THE LAW'S ENTRY: strings and statics ===== -/
theorem vg_tb {w : Cond} {k : Nat} (h : tables_1[k]? = some w) : w ∈ lw_tbl := List.mem_append_right _ (List.mem_of_getElem? h)
abbrev vgF : List Cond := flatC (Jvm.Cond.and given_1 narrow_1)
abbrev vgT1 : Term := .string "LightYearsAreOwed" 60
abbrev vgT2 : Term := .string "LightYearsAreOwed$Reader" 106
abbrev vgS (n : String) : Term := .static "LightYearsAreOwed" n "[I"
theorem vg_e1 : ∀ j, j < 32 → Cond.eq (.elem (.field vgT1 "java/lang/String" "value" "[B") (.int (Int32.ofNat j))) (.int (vFirst.getD j 0)) ∈ vgF := by decide +kernel
theorem vg_e2 : ∀ j, j < 68 → Cond.eq (.elem (.field vgT2 "java/lang/String" "value" "[B") (.int (Int32.ofNat j))) (.int (vWords.getD j 0)) ∈ vgF := by decide +kernel
theorem vg_u : ∀ j, j < 6 → Cond.eq (.elem (vgS "UNDER") (.int (Int32.ofNat j))) (.int (vUnder.getD j 0)) ∈ vgF := by decide +kernel
theorem vg_l : ∀ j, j < 6 → Cond.eq (.elem (vgS "LEAST") (.int (Int32.ofNat j))) (.int (vLeast.getD j 0)) ∈ vgF := by decide +kernel
theorem vg_m : ∀ j, j < 6 → Cond.eq (.elem (vgS "MOST") (.int (Int32.ofNat j))) (.int (vMost.getD j 0)) ∈ vgF := by decide +kernel
theorem vg_wu : [Cond.arrayOf (vgS "UNDER") .int, .eq (.length (vgS "UNDER")) (.int (Int32.ofNat 6)), .arrayOf (vgS "LEAST") .int, .eq (.length (vgS "LEAST")) (.int (Int32.ofNat 6)), .arrayOf (vgS "MOST") .int, .eq (.length (vgS "MOST")) (.int (Int32.ofNat 6)), .eq (.static "java/lang/String" "COMPACT_STRINGS" "Z") (.int 1), .isRef (.static "jdk/internal/util/Preconditions" "SIOOBE_FORMATTER" "Ljava/util/function/BiFunction;"), .exactly vgT1 "java/lang/String", .exactly vgT2 "java/lang/String", .eq (.field vgT1 "java/lang/String" "coder" "B") (.int 0), .eq (.field vgT2 "java/lang/String" "coder" "B") (.int 0), .arrayOf (.field vgT1 "java/lang/String" "value" "[B") .byte, .arrayOf (.field vgT2 "java/lang/String" "value" "[B") .byte, .eq (.length (.field vgT1 "java/lang/String" "value" "[B")) (.int (Int32.ofNat 32)), .eq (.length (.field vgT2 "java/lang/String" "value" "[B")) (.int (Int32.ofNat 68)), .not (.eq vgT1 vgT2)].all (fun w => vgF.contains w) = true := by decide +kernel
