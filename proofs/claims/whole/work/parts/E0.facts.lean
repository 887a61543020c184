/-! what the Statement gives of the start, by its place -/
section Facts
theorem nf_in (i : Nat) {w : Cond} (h : (flatC (Jvm.Cond.and given_1 narrow_1))[i]? = some w) : w ∈ flatC (Jvm.Cond.and given_1 narrow_1) := List.mem_of_getElem? h
theorem nf_psA : Cond.arrayOf (.static "ClueRoom" "PLAY_SYMBOLS" "[I") .int ∈ flatC (Jvm.Cond.and given_1 narrow_1) := nf_in 5 (by decide +kernel)
theorem nf_psL : Cond.eq (.length (.static "ClueRoom" "PLAY_SYMBOLS" "[I")) (.int (Int32.ofNat 10)) ∈ flatC (Jvm.Cond.and given_1 narrow_1) := nf_in 6 (by decide +kernel)
theorem nf_cs : Cond.eq (.static "java/lang/String" "COMPACT_STRINGS" "Z") (.int 1) ∈ flatC (Jvm.Cond.and given_1 narrow_1) := nf_in 17 (by decide +kernel)
theorem nf_fo : Cond.isRef (.static "jdk/internal/util/Preconditions" "SIOOBE_FORMATTER" "Ljava/util/function/BiFunction;") ∈ flatC (Jvm.Cond.and given_1 narrow_1) := nf_in 18 (by decide +kernel)
theorem nf_us : Cond.isRef (.static Bundle.tN "UNASSIGNED_STACK" Bundle.steD) ∈ flatC (Jvm.Cond.and given_1 narrow_1) := nf_in 22 (by decide +kernel)
theorem nf_su : Cond.isRef (.static Bundle.tN "SUPPRESSED_SENTINEL" Bundle.listD) ∈ flatC (Jvm.Cond.and given_1 narrow_1) := nf_in 23 (by decide +kernel)
theorem nf_sx : Cond.exactly (.string "ClueRoom$Reader" 82) "java/lang/String" ∈ flatC (Jvm.Cond.and given_1 narrow_1) := nf_in 37 (by decide +kernel)
theorem nf_sc : Cond.eq (.field (.string "ClueRoom$Reader" 82) "java/lang/String" "coder" "B") (.int 0) ∈ flatC (Jvm.Cond.and given_1 narrow_1) := nf_in 38 (by decide +kernel)
theorem nf_sa : Cond.arrayOf (.field (.string "ClueRoom$Reader" 82) "java/lang/String" "value" "[B") .byte ∈ flatC (Jvm.Cond.and given_1 narrow_1) := nf_in 39 (by decide +kernel)
theorem nf_sl : Cond.eq (.length (.field (.string "ClueRoom$Reader" 82) "java/lang/String" "value" "[B")) (.int (Int32.ofNat (([32] : List Nat).getD 0 0))) ∈ flatC (Jvm.Cond.and given_1 narrow_1) := nf_in 40 (by decide +kernel)
theorem nf_el : ∀ j : Nat, j < 10 → (flatC (Jvm.Cond.and given_1 narrow_1))[7 + j]? = some (Cond.eq (.elem (.static "ClueRoom" "PLAY_SYMBOLS" "[I") (.int (Int32.ofNat j))) (.int (Int32.ofInt (xPS j)))) := by decide +kernel
theorem nf_sy : ∀ j : Nat, j < 32 → (flatC (Jvm.Cond.and given_1 narrow_1))[41 + j]? = some (Cond.eq (.elem (.field (.string "ClueRoom$Reader" 82) "java/lang/String" "value" "[B") (.int (Int32.ofNat j))) (.int ((([xSymB] : List (List Int32)).getD 0 []).getD j 0))) := by decide +kernel
theorem lt_ps : Cond.laysStatic "ClueRoom" "PLAY_SYMBOLS" "[I" ∈ lw_tbl := x_ch_in 3 (List.mem_of_getElem? (i := 202) (by decide +kernel))
theorem lt_cs : Cond.laysStatic "java/lang/String" "COMPACT_STRINGS" "Z" ∈ lw_tbl := x_ch_in 4 (List.mem_of_getElem? (i := 118) (by decide +kernel))
theorem lt_fo : Cond.laysStatic "jdk/internal/util/Preconditions" "SIOOBE_FORMATTER" "Ljava/util/function/BiFunction;" ∈ lw_tbl := x_ch_in 4 (List.mem_of_getElem? (i := 126) (by decide +kernel))
theorem lt_us : Cond.laysStatic Bundle.tN "UNASSIGNED_STACK" Bundle.steD ∈ lw_tbl := x_ch_in 5 (List.mem_of_getElem? (i := 163) (by decide +kernel))
theorem lt_su : Cond.laysStatic Bundle.tN "SUPPRESSED_SENTINEL" Bundle.listD ∈ lw_tbl := x_ch_in 5 (List.mem_of_getElem? (i := 165) (by decide +kernel))
theorem lt_st : Cond.stringRef "ClueRoom$Reader" 82 xSym ∈ lw_tbl := x_ch_in 4 (List.mem_of_getElem? (i := 108) (by decide +kernel))
theorem lt_iC : Cond.initialized "ClueRoom" ∈ lw_tbl := x_ch_in 1 (List.mem_of_getElem? (i := 1) (by decide +kernel))
theorem lt_iS : Cond.initialized "java/lang/String" ∈ lw_tbl := x_ch_in 1 (List.mem_of_getElem? (i := 17) (by decide +kernel))
theorem lt_iP : Cond.initialized "jdk/internal/util/Preconditions" ∈ lw_tbl := x_ch_in 1 (List.mem_of_getElem? (i := 19) (by decide +kernel))
theorem lt_iT : Cond.initialized Bundle.tN ∈ lw_tbl := x_ch_in 1 (List.mem_of_getElem? (i := 21) (by decide +kernel))
end Facts
