/-! what the tables and the start give: the static facts (printed by tools/gen_ev.py) -/
def nar : List Cond := flatC (Cond.and given_1 narrow_1)
theorem nar_at {args : Array Value} {s : State} (hg : (Cond.and given_1 narrow_1).before args s = true) {i : Nat} {c : Cond} (h : nar[i]? = some c) : c.before args s = true := flat_of_before _ hg _ (List.mem_of_getElem? h)
def ixE : List Nat := [57, 61, 65, 69, 73, 89, 93, 97, 101, 111, 115, 119, 123, 127, 151, 155, 77, 81, 85, 159, 163, 167, 105, 131, 147, 139, 143, 135, 53, 49, 4]
def ixP : List Nat := [60, 64, 68, 72, 76, 92, 96, 100, 104, 114, 118, 122, 126, 130, 154, 158, 80, 84, 88, 162, 166, 170, 108, 134, 150, 142, 146, 138, 56, 52, 7]
def ixO : List Nat := [58, 62, 66, 70, 74, 90, 94, 98, 102, 112, 116, 120, 124, 128, 152, 156, 78, 82, 86, 160, 164, 168, 106, 132, 148, 140, 144, 136, 54, 50, 5]
def ixS : List Nat := [59, 63, 67, 71, 75, 91, 95, 99, 103, 113, 117, 121, 125, 129, 153, 157, 79, 83, 87, 161, 165, 169, 107, 133, 149, 141, 145, 137, 55, 51, 6]
def bxS : List Nat := [259, 280, 302, 328, 366, 394, 434, 459, 476, 494, 519, 535, 555, 581, 608, 651, 677, 710, 748, 756, 766, 773, 779, 786, 791, 796, 801, 806, 811, 816, 823, 832, 841, 849, 859, 866, 873, 879, 888, 894, 902, 910, 921, 929, 938, 947, 957, 961, 971, 978, 987, 996, 1008, 1016, 1026, 1036, 1045, 1055, 1065, 1076, 1081, 1090, 1101, 1109, 1116, 1124, 1129, 1134, 1139, 1144, 1149, 1157, 1164, 1173, 1184]
abbrev d8w : String := "LBeltHall$Word;"
abbrev tmW (i : Nat) : Term := .static RX8 (nmW.getD i "") d8w
abbrev tmS (i : Nat) : Term := .string (StrL.getD i ("", 0, "")).1 (StrL.getD i ("", 0, "")).2.1
abbrev tmV (i : Nat) : Term := .field (tmS i) "java/lang/String" "value" "[B"
theorem nr_E : ∀ i, i < 31 → nar[ixE.getD i 0]? = some (.exactly (tmW i) RX8) := by decide +kernel
theorem nr_P : ∀ i, i < 31 → nar[ixP.getD i 0]? = some (.eq (.field (tmW i) RX8 "part" "I") (.int (ptW.getD i 0))) := by decide +kernel
theorem nr_O : ∀ i, i < 31 → nar[ixO.getD i 0]? = some (.eq (.field (tmW i) "java/lang/Enum" "ordinal" "I") (.int (Int32.ofNat i))) := by decide +kernel
theorem nr_S : ∀ i, i < 31 → nar[ixS.getD i 0]? = some (.eq (.field (tmW i) RX8 "spelling" "Ljava/lang/String;") (tmS (spW.getD i 0))) := by decide +kernel
theorem nr_W : nar[10]? = some (.arrayOf (.static RX9 "WORDS" "[LBeltHall$Word;") (.object RX8)) := by decide +kernel
theorem nr_Wl : nar[11]? = some (.eq (.length (.static RX9 "WORDS" "[LBeltHall$Word;")) (.int 31)) := by decide +kernel
theorem nr_We : ∀ i, i < 31 → nar[13 + i]? = some (.eq (.elem (.static RX9 "WORDS" "[LBeltHall$Word;") (.int (Int32.ofNat i))) (tmW i)) := by decide +kernel
theorem nr_C : nar[44]? = some (.eq (.static "java/lang/String" "COMPACT_STRINGS" "Z") (.int 1)) := by decide +kernel
theorem nr_R1 : nar[109]? = some (.isRef (.static Bundle.tN "UNASSIGNED_STACK" Bundle.steD)) := by decide +kernel
theorem nr_R2 : nar[110]? = some (.isRef (.static Bundle.tN "SUPPRESSED_SENTINEL" Bundle.listD)) := by decide +kernel
theorem nr_R3 : nar[45]? = some (.isRef (.static "jdk/internal/util/Preconditions" "SIOOBE_FORMATTER" "Ljava/util/function/BiFunction;")) := by decide +kernel
theorem nr_T : ∀ i, i < 75 → nar[bxS.getD i 0]? = some (.exactly (tmS i) "java/lang/String") ∧ nar[bxS.getD i 0 + 1]? = some (.eq (.field (tmS i) "java/lang/String" "coder" "B") (.int 0)) ∧ nar[bxS.getD i 0 + 2]? = some (.arrayOf (tmV i) .byte) ∧ nar[bxS.getD i 0 + 3]? = some (.eq (.length (tmV i)) (.int (Int32.ofNat (StrB.getD i []).length))) := by decide +kernel
theorem nr_B : ∀ i, i < 75 → ∀ j, j < (StrB.getD i []).length → nar[bxS.getD i 0 + 4 + j]? = some (.eq (.elem (tmV i) (.int (Int32.ofNat j))) (.int ((StrB.getD i []).getD j 0))) := by decide +kernel
theorem nr_N : ∀ q ∈ NCL, Cond.not (.castable q.1 q.2) ∈ nar := by decide +kernel
theorem sb_len : ∀ i, i < 75 → (StrB.getD i []).length < 2 ^ 31 := by decide +kernel
theorem sp_lt : ∀ i, i < 31 → spW.getD i 0 < 75 := by decide +kernel
theorem tb_L : ∀ i, i < 31 → Cond.laysStatic RX8 (nmW.getD i "") d8w ∈ tables_1 := by decide +kernel
theorem tb_S : ∀ i, i < 75 → Cond.stringRef (StrL.getD i ("", 0, "")).1 (StrL.getD i ("", 0, "")).2.1 (StrL.getD i ("", 0, "")).2.2 ∈ tables_1 := by decide +kernel
theorem tb_1 : Cond.laysStatic RX9 "WORDS" "[LBeltHall$Word;" ∈ lw_tbl := mt_all (by decide +kernel)
theorem tb_2 : Cond.laysStatic "java/lang/String" "COMPACT_STRINGS" "Z" ∈ lw_tbl := mt_all (by decide +kernel)
theorem tb_3 : Cond.laysStatic Bundle.tN "UNASSIGNED_STACK" Bundle.steD ∈ lw_tbl := mt_all (by decide +kernel)
theorem tb_4 : Cond.laysStatic Bundle.tN "SUPPRESSED_SENTINEL" Bundle.listD ∈ lw_tbl := mt_all (by decide +kernel)
theorem tb_5 : Cond.laysStatic "jdk/internal/util/Preconditions" "SIOOBE_FORMATTER" "Ljava/util/function/BiFunction;" ∈ lw_tbl := mt_all (by decide +kernel)
theorem tb_i0 : Cond.initialized RX8 ∈ lw_tbl := mt_all (by decide +kernel)
theorem tb_i1 : Cond.initialized RX9 ∈ lw_tbl := mt_all (by decide +kernel)
theorem tb_i2 : Cond.initialized "java/lang/String" ∈ lw_tbl := mt_all (by decide +kernel)
theorem tb_i3 : Cond.initialized Bundle.tN ∈ lw_tbl := mt_all (by decide +kernel)
theorem tb_i4 : Cond.initialized "jdk/internal/util/Preconditions" ∈ lw_tbl := mt_all (by decide +kernel)
theorem tb_a1 : Cond.arrayClass .int ∈ lw_tbl := mt_all (by decide +kernel)
theorem tb_a2 : Cond.arrayClass .long ∈ lw_tbl := mt_all (by decide +kernel)
theorem tb_a3 : Cond.arrayClass .boolean ∈ lw_tbl := mt_all (by decide +kernel)
theorem tb_o4 : Cond.arrayOver (.object RX4) ∈ lw_tbl := mt_all (by decide +kernel)
theorem tb_o8 : Cond.arrayOver (.object RX8) ∈ lw_tbl := mt_all (by decide +kernel)
theorem tb_n0 : Cond.instantiable RX0 8 ∈ lw_tbl := mt_all (by decide +kernel)
theorem tb_n1 : Cond.instantiable RX1 2 ∈ lw_tbl := mt_all (by decide +kernel)
theorem tb_n2 : Cond.instantiable RX2 7 ∈ lw_tbl := mt_all (by decide +kernel)
theorem tb_n3 : Cond.instantiable RX3 4 ∈ lw_tbl := mt_all (by decide +kernel)
theorem tb_n4 : Cond.instantiable RX4 10 ∈ lw_tbl := mt_all (by decide +kernel)
theorem tb_n5 : Cond.instantiable RX5 5 ∈ lw_tbl := mt_all (by decide +kernel)
theorem tb_n6 : Cond.instantiable RX6 4 ∈ lw_tbl := mt_all (by decide +kernel)
theorem tb_n7 : Cond.instantiable RX7 9 ∈ lw_tbl := mt_all (by decide +kernel)
theorem tb_n9 : Cond.instantiable RX9 17 ∈ lw_tbl := mt_all (by decide +kernel)
theorem tb_n10 : Cond.instantiable RX10 28 ∈ lw_tbl := mt_all (by decide +kernel)
