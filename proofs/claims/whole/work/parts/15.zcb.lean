/-! constructors (printed by tools/gen_ctor.py) -/
theorem ac_int : Cond.arrayClass (newarray.typeOf .int) ∈ TB := TB_of (mt_1 (i := 92) (by decide +kernel)) (by decide +kernel)
theorem ac_long : Cond.arrayClass (newarray.typeOf .long) ∈ TB := TB_of (mt_1 (i := 199) (by decide +kernel)) (by decide +kernel)
theorem ac_bool : Cond.arrayClass (newarray.typeOf .boolean) ∈ TB := TB_of (mt_6 (i := 206) (by decide +kernel)) (by decide +kernel)
theorem oi_a : Cond.instanceMethod Lib.objectInit ∈ TB := TB_of (mt_1 (i := 35) (by decide +kernel)) (by decide +kernel)
theorem oi_b : Cond.code Lib.objectInit ⟨#[0xb1]⟩ 1 none ∈ TB := TB_of (mt_1 (i := 36) (by decide +kernel)) (by decide +kernel)
theorem oi_RX4_3 : Cond.methodLink RX4 3 Lib.objectInit ∈ TB := TB_of (mt_1 (i := 42) (by decide +kernel)) (by decide +kernel)
theorem fp_RX4_9 : FPC true RX4 RX4 TX4 10 4 9 0 tyX4 (.array .int) := ⟨iw_RX4, tyX4_ok, nmX4, rfl, by decide, TB_of (mt_1 (i := 43) (by decide +kernel)) (by decide +kernel), rfl, rfl, by decide +kernel⟩
theorem fp_RX4_15 : FPC true RX4 RX4 TX4 10 4 15 1 tyX4 (.array .int) := ⟨iw_RX4, tyX4_ok, nmX4, rfl, by decide, TB_of (mt_1 (i := 44) (by decide +kernel)) (by decide +kernel), rfl, rfl, by decide +kernel⟩
theorem fp_RX4_18 : FPC true RX4 RX4 TX4 10 4 18 2 tyX4 (.array .int) := ⟨iw_RX4, tyX4_ok, nmX4, rfl, by decide, TB_of (mt_1 (i := 45) (by decide +kernel)) (by decide +kernel), rfl, rfl, by decide +kernel⟩
theorem fp_RX4_21 : FPC false RX4 RX4 TX4 10 4 21 6 tyX4 .int := ⟨iw_RX4, tyX4_ok, nmX4, rfl, by decide, TB_of (mt_1 (i := 60) (by decide +kernel)) (by decide +kernel), rfl, rfl, by decide +kernel⟩
theorem fp_RX4_25 : FPC false RX4 RX4 TX4 10 4 25 8 tyX4 .int := ⟨iw_RX4, tyX4_ok, nmX4, rfl, by decide, TB_of (mt_1 (i := 67) (by decide +kernel)) (by decide +kernel), rfl, rfl, by decide +kernel⟩
theorem oi_RX2_3 : Cond.methodLink RX2 3 Lib.objectInit ∈ TB := TB_of (mt_1 (i := 98) (by decide +kernel)) (by decide +kernel)
theorem fp_RX2_9 : FPC true RX2 RX2 TX2 7 2 9 0 tyX2 (.array .int) := ⟨iw_RX2, tyX2_ok, nmX2, rfl, by decide, TB_of (mt_1 (i := 99) (by decide +kernel)) (by decide +kernel), rfl, rfl, by decide +kernel⟩
theorem fp_RX2_15 : FPC true RX2 RX2 TX2 7 2 15 1 tyX2 (.array .int) := ⟨iw_RX2, tyX2_ok, nmX2, rfl, by decide, TB_of (mt_1 (i := 100) (by decide +kernel)) (by decide +kernel), rfl, rfl, by decide +kernel⟩
theorem fp_RX2_18 : FPC true RX2 RX2 TX2 7 2 18 2 tyX2 (.array .int) := ⟨iw_RX2, tyX2_ok, nmX2, rfl, by decide, TB_of (mt_1 (i := 101) (by decide +kernel)) (by decide +kernel), rfl, rfl, by decide +kernel⟩
theorem fp_RX2_21 : FPC true RX2 RX2 TX2 7 2 21 3 tyX2 (.array .int) := ⟨iw_RX2, tyX2_ok, nmX2, rfl, by decide, TB_of (mt_1 (i := 102) (by decide +kernel)) (by decide +kernel), rfl, rfl, by decide +kernel⟩
theorem fp_RX2_24 : FPC true RX2 RX2 TX2 7 2 24 4 tyX2 (.array .int) := ⟨iw_RX2, tyX2_ok, nmX2, rfl, by decide, TB_of (mt_1 (i := 103) (by decide +kernel)) (by decide +kernel), rfl, rfl, by decide +kernel⟩
theorem fp_RX2_27 : FPC false RX2 RX2 TX2 7 2 27 6 tyX2 .int := ⟨iw_RX2, tyX2_ok, nmX2, rfl, by decide, TB_of (mt_1 (i := 105) (by decide +kernel)) (by decide +kernel), rfl, rfl, by decide +kernel⟩
theorem oi_RX6_3 : Cond.methodLink RX6 3 Lib.objectInit ∈ TB := TB_of (mt_1 (i := 128) (by decide +kernel)) (by decide +kernel)
theorem fp_RX6_9 : FPC true RX6 RX6 TX6 4 6 9 0 tyX6 (.array .int) := ⟨iw_RX6, tyX6_ok, nmX6, rfl, by decide, TB_of (mt_1 (i := 129) (by decide +kernel)) (by decide +kernel), rfl, rfl, by decide +kernel⟩
theorem fp_RX6_15 : FPC true RX6 RX6 TX6 4 6 15 1 tyX6 (.array .int) := ⟨iw_RX6, tyX6_ok, nmX6, rfl, by decide, TB_of (mt_1 (i := 130) (by decide +kernel)) (by decide +kernel), rfl, rfl, by decide +kernel⟩
theorem fp_RX6_18 : FPC true RX6 RX6 TX6 4 6 18 2 tyX6 (.array .int) := ⟨iw_RX6, tyX6_ok, nmX6, rfl, by decide, TB_of (mt_1 (i := 133) (by decide +kernel)) (by decide +kernel), rfl, rfl, by decide +kernel⟩
theorem fp_RX6_21 : FPC true RX6 RX6 TX6 4 6 21 3 tyX6 (.array .int) := ⟨iw_RX6, tyX6_ok, nmX6, rfl, by decide, TB_of (mt_1 (i := 135) (by decide +kernel)) (by decide +kernel), rfl, rfl, by decide +kernel⟩
theorem oi_RX5_3 : Cond.methodLink RX5 3 Lib.objectInit ∈ TB := TB_of (mt_1 (i := 150) (by decide +kernel)) (by decide +kernel)
theorem fp_RX5_9 : FPC true RX5 RX5 TX5 5 5 9 0 tyX5 (.array .int) := ⟨iw_RX5, tyX5_ok, nmX5, rfl, by decide, TB_of (mt_1 (i := 151) (by decide +kernel)) (by decide +kernel), rfl, rfl, by decide +kernel⟩
theorem fp_RX5_15 : FPC true RX5 RX5 TX5 5 5 15 1 tyX5 (.array .int) := ⟨iw_RX5, tyX5_ok, nmX5, rfl, by decide, TB_of (mt_1 (i := 152) (by decide +kernel)) (by decide +kernel), rfl, rfl, by decide +kernel⟩
theorem oi_RX0_5 : Cond.methodLink RX0 5 Lib.objectInit ∈ TB := TB_of (mt_1 (i := 172) (by decide +kernel)) (by decide +kernel)
theorem fp_RX0_11 : FPC true RX0 RX0 TX0 8 0 11 0 tyX0 (.array .long) := ⟨iw_RX0, tyX0_ok, nmX0, rfl, by decide, TB_of (mt_1 (i := 173) (by decide +kernel)) (by decide +kernel), rfl, rfl, by decide +kernel⟩
theorem fp_RX0_17 : FPC true RX0 RX0 TX0 8 0 17 1 tyX0 (.array .int) := ⟨iw_RX0, tyX0_ok, nmX0, rfl, by decide, TB_of (mt_1 (i := 174) (by decide +kernel)) (by decide +kernel), rfl, rfl, by decide +kernel⟩
theorem fp_RX0_21 : FPC true RX0 RX0 TX0 8 0 21 2 tyX0 (.array .int) := ⟨iw_RX0, tyX0_ok, nmX0, rfl, by decide, TB_of (mt_1 (i := 176) (by decide +kernel)) (by decide +kernel), rfl, rfl, by decide +kernel⟩
theorem fp_RX0_24 : FPC true RX0 RX0 TX0 8 0 24 3 tyX0 (.array .long) := ⟨iw_RX0, tyX0_ok, nmX0, rfl, by decide, TB_of (mt_1 (i := 177) (by decide +kernel)) (by decide +kernel), rfl, rfl, by decide +kernel⟩
theorem fp_RX0_27 : FPC true RX0 RX0 TX0 8 0 27 4 tyX0 (.array .long) := ⟨iw_RX0, tyX0_ok, nmX0, rfl, by decide, TB_of (mt_1 (i := 178) (by decide +kernel)) (by decide +kernel), rfl, rfl, by decide +kernel⟩
theorem fp_RX0_30 : FPC true RX0 RX0 TX0 8 0 30 5 tyX0 (.array .int) := ⟨iw_RX0, tyX0_ok, nmX0, rfl, by decide, TB_of (mt_1 (i := 179) (by decide +kernel)) (by decide +kernel), rfl, rfl, by decide +kernel⟩
theorem oi_RX7_3 : Cond.methodLink RX7 3 Lib.objectInit ∈ TB := TB_of (mt_1 (i := 211) (by decide +kernel)) (by decide +kernel)
theorem cl_RX7_9 : Cond.classLink RX7 9 RX8 ∈ TB := TB_of (mt_1 (i := 212) (by decide +kernel)) (by decide +kernel)
theorem fp_RX7_11 : FPC true RX7 RX7 TX7 9 7 11 0 tyX7 (.array (.object RX8)) := ⟨iw_RX7, tyX7_ok, nmX7, rfl, by decide, TB_of (mt_1 (i := 216) (by decide +kernel)) (by decide +kernel), rfl, rfl, by decide +kernel⟩
theorem fp_RX7_17 : FPC true RX7 RX7 TX7 9 7 17 1 tyX7 (.array .int) := ⟨iw_RX7, tyX7_ok, nmX7, rfl, by decide, TB_of (mt_1 (i := 217) (by decide +kernel)) (by decide +kernel), rfl, rfl, by decide +kernel⟩
theorem fp_RX7_21 : FPC true RX7 RX7 TX7 9 7 21 2 tyX7 (.array .int) := ⟨iw_RX7, tyX7_ok, nmX7, rfl, by decide, TB_of (mt_1 (i := 218) (by decide +kernel)) (by decide +kernel), rfl, rfl, by decide +kernel⟩
theorem gwc_RX7_24 : Cond.fieldLink RX7 24 RX8 "END" "LBeltHall$Word;" ∈ TB := TB_of (mt_1 (i := 214) (by decide +kernel)) (by decide +kernel)
theorem fp_RX7_28 : FPC false RX7 RX7 TX7 9 7 28 5 tyX7 (.object RX8) := ⟨iw_RX7, tyX7_ok, nmX7, rfl, by decide, TB_of (mt_1 (i := 221) (by decide +kernel)) (by decide +kernel), rfl, rfl, by decide +kernel⟩
theorem fp_RX7_31 : FPC false RX7 RX7 TX7 9 7 31 8 tyX7 .int := ⟨iw_RX7, tyX7_ok, nmX7, rfl, by decide, TB_of (mt_1 (i := 226) (by decide +kernel)) (by decide +kernel), rfl, rfl, by decide +kernel⟩
theorem oi_RX1_3 : Cond.methodLink RX1 3 Lib.objectInit ∈ TB := TB_of (mt_1 (i := 205) (by decide +kernel)) (by decide +kernel)
theorem nf_RX1_9 : NEW RX1 RX7 TX7 9 7 9 tyX7 [.null, .null, .null, .int 0, .int 0, .null, .int 0, .int 0, .int 0] := ⟨iw_RX7, tyX7_ok, TB_of (mt_1 (i := 206) (by decide +kernel)) (by decide +kernel), TB_of (mt_1 (i := 207) (by decide +kernel)) (by decide +kernel), TB_of (mt_1 (i := 8) (by decide +kernel)) (by decide +kernel), rfl, fun j hj => by
  exact (show ∀ j, j < 9 → defaultValue (tyX7 j) = vp_V [.null, .null, .null, .int 0, .int 0, .null, .int 0, .int 0, .int 0] j by decide +kernel) j hj⟩
theorem ci_RX1_11 : CIN RX1 RX9 11 yX7_init cX7_init 1 := ⟨TB_of (mt_1 (i := 210) (by decide +kernel)) (by decide +kernel), List.mem_filter.mpr ⟨mt_1 (i := 208) (by decide +kernel), by decide +kernel⟩, TB_of (mt_1 (i := 209) (by decide +kernel)) (by decide +kernel), TB_of (mt_1 (i := 8) (by decide +kernel)) (by decide +kernel), rfl, by decide, by decide, by decide +kernel⟩
theorem fp_RX1_12 : FPC true RX1 RX1 TX1 2 1 12 0 tyX1 (.object RX7) := ⟨iw_RX1, tyX1_ok, nmX1, rfl, by decide, TB_of (mt_2 (i := 7) (by decide +kernel)) (by decide +kernel), rfl, rfl, by decide +kernel⟩
theorem oi_RX3_5 : Cond.methodLink RX3 5 Lib.objectInit ∈ TB := TB_of (mt_2 (i := 20) (by decide +kernel)) (by decide +kernel)
theorem nf_RX3_11 : NEW RX3 RX7 TX7 9 7 11 tyX7 [.null, .null, .null, .int 0, .int 0, .null, .int 0, .int 0, .int 0] := ⟨iw_RX7, tyX7_ok, TB_of (mt_2 (i := 21) (by decide +kernel)) (by decide +kernel), TB_of (mt_1 (i := 207) (by decide +kernel)) (by decide +kernel), TB_of (mt_1 (i := 8) (by decide +kernel)) (by decide +kernel), rfl, fun j hj => by
  exact (show ∀ j, j < 9 → defaultValue (tyX7 j) = vp_V [.null, .null, .null, .int 0, .int 0, .null, .int 0, .int 0, .int 0] j by decide +kernel) j hj⟩
theorem ci_RX3_13 : CIN RX3 RX9 13 yX7_init cX7_init 1 := ⟨TB_of (mt_1 (i := 210) (by decide +kernel)) (by decide +kernel), List.mem_filter.mpr ⟨mt_2 (i := 22) (by decide +kernel), by decide +kernel⟩, TB_of (mt_1 (i := 209) (by decide +kernel)) (by decide +kernel), TB_of (mt_1 (i := 8) (by decide +kernel)) (by decide +kernel), rfl, by decide, by decide, by decide +kernel⟩
theorem fp_RX3_14 : FPC true RX3 RX3 TX3 4 3 14 0 tyX3 (.object RX7) := ⟨iw_RX3, tyX3_ok, nmX3, rfl, by decide, TB_of (mt_2 (i := 23) (by decide +kernel)) (by decide +kernel), rfl, rfl, by decide +kernel⟩
theorem fp_RX3_20 : FPC true RX3 RX3 TX3 4 3 20 1 tyX3 (.array .int) := ⟨iw_RX3, tyX3_ok, nmX3, rfl, by decide, TB_of (mt_2 (i := 25) (by decide +kernel)) (by decide +kernel), rfl, rfl, by decide +kernel⟩
theorem oi_RX10_1 : Cond.methodLink RX10 1 Lib.objectInit ∈ TB := TB_of (mt_6 (i := 120) (by decide +kernel)) (by decide +kernel)
theorem fp_RX10_7 : FPC true RX10 RX10 TX10 28 9 7 1 tyX10 (.array .int) := ⟨iw_RX10, tyX10_ok, nmX10, rfl, by decide, TB_of (mt_6 (i := 122) (by decide +kernel)) (by decide +kernel), rfl, rfl, by decide +kernel⟩
theorem fp_RX10_13 : FPC true RX10 RX10 TX10 28 9 13 2 tyX10 (.array .int) := ⟨iw_RX10, tyX10_ok, nmX10, rfl, by decide, TB_of (mt_6 (i := 123) (by decide +kernel)) (by decide +kernel), rfl, rfl, by decide +kernel⟩
theorem fp_RX10_16 : FPC true RX10 RX10 TX10 28 9 16 4 tyX10 (.array .int) := ⟨iw_RX10, tyX10_ok, nmX10, rfl, by decide, TB_of (mt_6 (i := 125) (by decide +kernel)) (by decide +kernel), rfl, rfl, by decide +kernel⟩
theorem fp_RX10_19 : FPC true RX10 RX10 TX10 28 9 19 5 tyX10 (.array .int) := ⟨iw_RX10, tyX10_ok, nmX10, rfl, by decide, TB_of (mt_6 (i := 126) (by decide +kernel)) (by decide +kernel), rfl, rfl, by decide +kernel⟩
theorem fp_RX10_22 : FPC true RX10 RX10 TX10 28 9 22 7 tyX10 (.array .int) := ⟨iw_RX10, tyX10_ok, nmX10, rfl, by decide, TB_of (mt_6 (i := 128) (by decide +kernel)) (by decide +kernel), rfl, rfl, by decide +kernel⟩
theorem fp_RX10_25 : FPC false RX10 RX10 TX10 28 9 25 12 tyX10 .int := ⟨iw_RX10, tyX10_ok, nmX10, rfl, by decide, TB_of (mt_6 (i := 133) (by decide +kernel)) (by decide +kernel), rfl, rfl, by decide +kernel⟩
theorem fp_RX10_29 : FPC true RX10 RX10 TX10 28 9 29 14 tyX10 (.array .int) := ⟨iw_RX10, tyX10_ok, nmX10, rfl, by decide, TB_of (mt_6 (i := 135) (by decide +kernel)) (by decide +kernel), rfl, rfl, by decide +kernel⟩
theorem fp_RX10_32 : FPC true RX10 RX10 TX10 28 9 32 18 tyX10 (.array .int) := ⟨iw_RX10, tyX10_ok, nmX10, rfl, by decide, TB_of (mt_6 (i := 139) (by decide +kernel)) (by decide +kernel), rfl, rfl, by decide +kernel⟩
theorem fp_RX10_35 : FPC true RX10 RX10 TX10 28 9 35 19 tyX10 (.array .int) := ⟨iw_RX10, tyX10_ok, nmX10, rfl, by decide, TB_of (mt_6 (i := 140) (by decide +kernel)) (by decide +kernel), rfl, rfl, by decide +kernel⟩
theorem fp_RX10_38 : FPC true RX10 RX10 TX10 28 9 38 20 tyX10 (.array .int) := ⟨iw_RX10, tyX10_ok, nmX10, rfl, by decide, TB_of (mt_6 (i := 141) (by decide +kernel)) (by decide +kernel), rfl, rfl, by decide +kernel⟩
theorem fp_RX10_41 : FPC true RX10 RX10 TX10 28 9 41 21 tyX10 (.array .int) := ⟨iw_RX10, tyX10_ok, nmX10, rfl, by decide, TB_of (mt_6 (i := 142) (by decide +kernel)) (by decide +kernel), rfl, rfl, by decide +kernel⟩
theorem fp_RX10_44 : FPC true RX10 RX10 TX10 28 9 44 22 tyX10 (.array .int) := ⟨iw_RX10, tyX10_ok, nmX10, rfl, by decide, TB_of (mt_6 (i := 143) (by decide +kernel)) (by decide +kernel), rfl, rfl, by decide +kernel⟩
theorem fp_RX10_47 : FPC true RX10 RX10 TX10 28 9 47 23 tyX10 (.array .int) := ⟨iw_RX10, tyX10_ok, nmX10, rfl, by decide, TB_of (mt_6 (i := 144) (by decide +kernel)) (by decide +kernel), rfl, rfl, by decide +kernel⟩
theorem fp_RX10_50 : FPC true RX10 RX10 TX10 28 9 50 24 tyX10 (.array .int) := ⟨iw_RX10, tyX10_ok, nmX10, rfl, by decide, TB_of (mt_6 (i := 145) (by decide +kernel)) (by decide +kernel), rfl, rfl, by decide +kernel⟩
theorem fp_RX10_53 : FPC true RX10 RX10 TX10 28 9 53 25 tyX10 (.array .int) := ⟨iw_RX10, tyX10_ok, nmX10, rfl, by decide, TB_of (mt_6 (i := 146) (by decide +kernel)) (by decide +kernel), rfl, rfl, by decide +kernel⟩
theorem fp_RX10_56 : FPC true RX10 RX10 TX10 28 9 56 26 tyX10 (.array .int) := ⟨iw_RX10, tyX10_ok, nmX10, rfl, by decide, TB_of (mt_6 (i := 147) (by decide +kernel)) (by decide +kernel), rfl, rfl, by decide +kernel⟩
theorem fp_RX10_59 : FPC true RX10 RX10 TX10 28 9 59 27 tyX10 (.array .boolean) := ⟨iw_RX10, tyX10_ok, nmX10, rfl, by decide, TB_of (mt_6 (i := 148) (by decide +kernel)) (by decide +kernel), rfl, rfl, by decide +kernel⟩
theorem oi_RX9_1 : Cond.methodLink RX9 1 Lib.objectInit ∈ TB := TB_of (mt_1 (i := 34) (by decide +kernel)) (by decide +kernel)
theorem fp_RX9_9 : FPC true RX9 RX9 TX9 17 8 9 0 tyX9 (.array .int) := ⟨iw_RX9, tyX9_ok, nmX9, rfl, by decide, TB_of (mt_2 (i := 37) (by decide +kernel)) (by decide +kernel), rfl, rfl, by decide +kernel⟩
theorem fp_RX9_13 : FPC false RX9 RX9 TX9 17 8 13 2 tyX9 .int := ⟨iw_RX9, tyX9_ok, nmX9, rfl, by decide, TB_of (mt_2 (i := 39) (by decide +kernel)) (by decide +kernel), rfl, rfl, by decide +kernel⟩
theorem nf_RX9_17 : NEW RX9 RX4 TX4 10 4 17 tyX4 [.null, .null, .null, .int 0, .int 0, .int 0, .int 0, .int 0, .int 0, .int 0] := ⟨iw_RX4, tyX4_ok, TB_of (mt_1 (i := 37) (by decide +kernel)) (by decide +kernel), TB_of (mt_1 (i := 38) (by decide +kernel)) (by decide +kernel), TB_of (mt_1 (i := 2) (by decide +kernel)) (by decide +kernel), rfl, fun j hj => by
  exact (show ∀ j, j < 10 → defaultValue (tyX4 j) = vp_V [.null, .null, .null, .int 0, .int 0, .int 0, .int 0, .int 0, .int 0, .int 0] j by decide +kernel) j hj⟩
theorem ci_RX9_19 : CIN RX9 RX9 19 yX4_init cX4_init 1 := ⟨TB_of (mt_1 (i := 41) (by decide +kernel)) (by decide +kernel), List.mem_filter.mpr ⟨mt_1 (i := 39) (by decide +kernel), by decide +kernel⟩, TB_of (mt_1 (i := 40) (by decide +kernel)) (by decide +kernel), TB_of (mt_1 (i := 2) (by decide +kernel)) (by decide +kernel), rfl, by decide, by decide, by decide +kernel⟩
theorem fp_RX9_20 : FPC false RX9 RX9 TX9 17 8 20 3 tyX9 (.object RX4) := ⟨iw_RX9, tyX9_ok, nmX9, rfl, by decide, TB_of (mt_2 (i := 40) (by decide +kernel)) (by decide +kernel), rfl, rfl, by decide +kernel⟩
theorem fp_RX9_24 : FPC false RX9 RX9 TX9 17 8 24 4 tyX9 (.object RX4) := ⟨iw_RX9, tyX9_ok, nmX9, rfl, by decide, TB_of (mt_2 (i := 41) (by decide +kernel)) (by decide +kernel), rfl, rfl, by decide +kernel⟩
theorem nf_RX9_27 : NEW RX9 RX2 TX2 7 2 27 tyX2 [.null, .null, .null, .null, .null, .int 0, .int 0] := ⟨iw_RX2, tyX2_ok, TB_of (mt_1 (i := 93) (by decide +kernel)) (by decide +kernel), TB_of (mt_1 (i := 94) (by decide +kernel)) (by decide +kernel), TB_of (mt_1 (i := 3) (by decide +kernel)) (by decide +kernel), rfl, fun j hj => by
  exact (show ∀ j, j < 7 → defaultValue (tyX2 j) = vp_V [.null, .null, .null, .null, .null, .int 0, .int 0] j by decide +kernel) j hj⟩
theorem ci_RX9_29 : CIN RX9 RX9 29 yX2_init cX2_init 1 := ⟨TB_of (mt_1 (i := 97) (by decide +kernel)) (by decide +kernel), List.mem_filter.mpr ⟨mt_1 (i := 95) (by decide +kernel), by decide +kernel⟩, TB_of (mt_1 (i := 96) (by decide +kernel)) (by decide +kernel), TB_of (mt_1 (i := 3) (by decide +kernel)) (by decide +kernel), rfl, by decide, by decide, by decide +kernel⟩
theorem fp_RX9_30 : FPC false RX9 RX9 TX9 17 8 30 5 tyX9 (.object RX2) := ⟨iw_RX9, tyX9_ok, nmX9, rfl, by decide, TB_of (mt_2 (i := 42) (by decide +kernel)) (by decide +kernel), rfl, rfl, by decide +kernel⟩
theorem fp_RX9_34 : FPC false RX9 RX9 TX9 17 8 34 6 tyX9 (.object RX2) := ⟨iw_RX9, tyX9_ok, nmX9, rfl, by decide, TB_of (mt_2 (i := 43) (by decide +kernel)) (by decide +kernel), rfl, rfl, by decide +kernel⟩
theorem fp_RX9_37 : FPC true RX9 RX9 TX9 17 8 37 7 tyX9 (.object RX4) := ⟨iw_RX9, tyX9_ok, nmX9, rfl, by decide, TB_of (mt_2 (i := 44) (by decide +kernel)) (by decide +kernel), rfl, rfl, by decide +kernel⟩
theorem fp_RX9_40 : FPC true RX9 RX9 TX9 17 8 40 8 tyX9 (.object RX2) := ⟨iw_RX9, tyX9_ok, nmX9, rfl, by decide, TB_of (mt_2 (i := 45) (by decide +kernel)) (by decide +kernel), rfl, rfl, by decide +kernel⟩
theorem cl_RX9_17 : Cond.classLink RX9 17 RX4 ∈ TB := TB_of (mt_1 (i := 37) (by decide +kernel)) (by decide +kernel)
theorem fp_RX9_43 : FPC true RX9 RX9 TX9 17 8 43 10 tyX9 (.array (.object RX4)) := ⟨iw_RX9, tyX9_ok, nmX9, rfl, by decide, TB_of (mt_2 (i := 47) (by decide +kernel)) (by decide +kernel), rfl, rfl, by decide +kernel⟩
theorem nf_RX9_47 : NEW RX9 RX6 TX6 4 6 47 tyX6 [.null, .null, .null, .null] := ⟨iw_RX6, tyX6_ok, TB_of (mt_1 (i := 123) (by decide +kernel)) (by decide +kernel), TB_of (mt_1 (i := 124) (by decide +kernel)) (by decide +kernel), TB_of (mt_1 (i := 4) (by decide +kernel)) (by decide +kernel), rfl, fun j hj => by
  exact (show ∀ j, j < 4 → defaultValue (tyX6 j) = vp_V [.null, .null, .null, .null] j by decide +kernel) j hj⟩
theorem ci_RX9_49 : CIN RX9 RX9 49 yX6_init cX6_init 1 := ⟨TB_of (mt_1 (i := 127) (by decide +kernel)) (by decide +kernel), List.mem_filter.mpr ⟨mt_1 (i := 125) (by decide +kernel), by decide +kernel⟩, TB_of (mt_1 (i := 126) (by decide +kernel)) (by decide +kernel), TB_of (mt_1 (i := 4) (by decide +kernel)) (by decide +kernel), rfl, by decide, by decide, by decide +kernel⟩
theorem fp_RX9_50 : FPC true RX9 RX9 TX9 17 8 50 12 tyX9 (.object RX6) := ⟨iw_RX9, tyX9_ok, nmX9, rfl, by decide, TB_of (mt_2 (i := 49) (by decide +kernel)) (by decide +kernel), rfl, rfl, by decide +kernel⟩
theorem nf_RX9_54 : NEW RX9 RX5 TX5 5 5 54 tyX5 [.null, .null, .int 0, .int 0, .int 0] := ⟨iw_RX5, tyX5_ok, TB_of (mt_1 (i := 145) (by decide +kernel)) (by decide +kernel), TB_of (mt_1 (i := 146) (by decide +kernel)) (by decide +kernel), TB_of (mt_1 (i := 5) (by decide +kernel)) (by decide +kernel), rfl, fun j hj => by
  exact (show ∀ j, j < 5 → defaultValue (tyX5 j) = vp_V [.null, .null, .int 0, .int 0, .int 0] j by decide +kernel) j hj⟩
theorem ci_RX9_56 : CIN RX9 RX9 56 yX5_init cX5_init 1 := ⟨TB_of (mt_1 (i := 149) (by decide +kernel)) (by decide +kernel), List.mem_filter.mpr ⟨mt_1 (i := 147) (by decide +kernel), by decide +kernel⟩, TB_of (mt_1 (i := 148) (by decide +kernel)) (by decide +kernel), TB_of (mt_1 (i := 5) (by decide +kernel)) (by decide +kernel), rfl, by decide, by decide, by decide +kernel⟩
theorem fp_RX9_57 : FPC true RX9 RX9 TX9 17 8 57 13 tyX9 (.object RX5) := ⟨iw_RX9, tyX9_ok, nmX9, rfl, by decide, TB_of (mt_2 (i := 50) (by decide +kernel)) (by decide +kernel), rfl, rfl, by decide +kernel⟩
theorem nf_RX9_61 : NEW RX9 RX0 TX0 8 0 61 tyX0 [.null, .null, .null, .null, .null, .null, .int 0, .int 0] := ⟨iw_RX0, tyX0_ok, TB_of (mt_1 (i := 167) (by decide +kernel)) (by decide +kernel), TB_of (mt_1 (i := 168) (by decide +kernel)) (by decide +kernel), TB_of (mt_1 (i := 6) (by decide +kernel)) (by decide +kernel), rfl, fun j hj => by
  exact (show ∀ j, j < 8 → defaultValue (tyX0 j) = vp_V [.null, .null, .null, .null, .null, .null, .int 0, .int 0] j by decide +kernel) j hj⟩
theorem ci_RX9_63 : CIN RX9 RX9 63 yX0_init cX0_init 1 := ⟨TB_of (mt_1 (i := 171) (by decide +kernel)) (by decide +kernel), List.mem_filter.mpr ⟨mt_1 (i := 169) (by decide +kernel), by decide +kernel⟩, TB_of (mt_1 (i := 170) (by decide +kernel)) (by decide +kernel), TB_of (mt_1 (i := 6) (by decide +kernel)) (by decide +kernel), rfl, by decide, by decide, by decide +kernel⟩
theorem fp_RX9_64 : FPC true RX9 RX9 TX9 17 8 64 14 tyX9 (.object RX0) := ⟨iw_RX9, tyX9_ok, nmX9, rfl, by decide, TB_of (mt_2 (i := 51) (by decide +kernel)) (by decide +kernel), rfl, rfl, by decide +kernel⟩
theorem nf_RX9_68 : NEW RX9 RX1 TX1 2 1 68 tyX1 [.null, .int 0] := ⟨iw_RX1, tyX1_ok, TB_of (mt_1 (i := 200) (by decide +kernel)) (by decide +kernel), TB_of (mt_1 (i := 201) (by decide +kernel)) (by decide +kernel), TB_of (mt_1 (i := 7) (by decide +kernel)) (by decide +kernel), rfl, fun j hj => by
  exact (show ∀ j, j < 2 → defaultValue (tyX1 j) = vp_V [.null, .int 0] j by decide +kernel) j hj⟩
theorem ci_RX9_70 : CIN RX9 RX9 70 yX1_init cX1_init 1 := ⟨TB_of (mt_1 (i := 204) (by decide +kernel)) (by decide +kernel), List.mem_filter.mpr ⟨mt_1 (i := 202) (by decide +kernel), by decide +kernel⟩, TB_of (mt_1 (i := 203) (by decide +kernel)) (by decide +kernel), TB_of (mt_1 (i := 7) (by decide +kernel)) (by decide +kernel), rfl, by decide, by decide, by decide +kernel⟩
theorem fp_RX9_71 : FPC true RX9 RX9 TX9 17 8 71 15 tyX9 (.object RX1) := ⟨iw_RX9, tyX9_ok, nmX9, rfl, by decide, TB_of (mt_2 (i := 52) (by decide +kernel)) (by decide +kernel), rfl, rfl, by decide +kernel⟩
theorem nf_RX9_75 : NEW RX9 RX3 TX3 4 3 75 tyX3 [.null, .null, .int 0, .int 0] := ⟨iw_RX3, tyX3_ok, TB_of (mt_2 (i := 15) (by decide +kernel)) (by decide +kernel), TB_of (mt_2 (i := 16) (by decide +kernel)) (by decide +kernel), TB_of (mt_1 (i := 11) (by decide +kernel)) (by decide +kernel), rfl, fun j hj => by
  exact (show ∀ j, j < 4 → defaultValue (tyX3 j) = vp_V [.null, .null, .int 0, .int 0] j by decide +kernel) j hj⟩
theorem ci_RX9_77 : CIN RX9 RX9 77 yX3_init cX3_init 1 := ⟨TB_of (mt_2 (i := 19) (by decide +kernel)) (by decide +kernel), List.mem_filter.mpr ⟨mt_2 (i := 17) (by decide +kernel), by decide +kernel⟩, TB_of (mt_2 (i := 18) (by decide +kernel)) (by decide +kernel), TB_of (mt_1 (i := 11) (by decide +kernel)) (by decide +kernel), rfl, by decide, by decide, by decide +kernel⟩
theorem fp_RX9_78 : FPC true RX9 RX9 TX9 17 8 78 16 tyX9 (.object RX3) := ⟨iw_RX9, tyX9_ok, nmX9, rfl, by decide, TB_of (mt_2 (i := 53) (by decide +kernel)) (by decide +kernel), rfl, rfl, by decide +kernel⟩
def Wc_X4_init (X : Cx) (h : Nat) (u : Nat → Nat) : va_W := [(h, .inr (4, [.ref (u 0), .ref (u 1), .ref (u 2), .int 0, .int 0, .int 0, .int 2, .int 0, .int 1, .int 0])), ((u 0), .inl (X.2.1 0, 45, .inl (fun _ => 0))), ((u 1), .inl (X.2.1 0, 50, .inl (fun _ => 0))), ((u 2), .inl (X.2.1 0, 300, .inl (fun _ => 0)))]
def rm_X4_init : Room := rmx 1 12 3 395
set_option maxRecDepth 100000 in
set_option maxHeartbeats 8000000 in
theorem KC_X4_init {X : Cx} {l : Launch} : KC X l yX4_init (wz yX4_init cX4_init 1 none) rm_X4_init 3 395 4 [.null, .null, .null, .int 0, .int 0, .int 0, .int 0, .int 0, .int 0, .int 0] (Wc_X4_init X) := by
  refine KC_of (own := RX4) (by decide +kernel) rfl (Nat.le_of_ble_eq_true rfl) rfl (fun A h p e s m args below meth c S hI hr hlk => ?_)
  refine y_aload_n S dX4_init_0 rfl 0 rfl ?_
  refine y_objInit S oi_RX4_3 oi_a oi_b dX4_init_1 (Nat.le_of_ble_eq_true rfl) (Nat.le_of_ble_eq_true rfl) ?_
  refine y_aload_n S dX4_init_4 rfl 0 rfl ?_
  refine y_bipush (v := 45) S dX4_init_5 (by decide) ?_
  refine y_newa S 0 ac_int rfl rfl (N' := 45) (xa := .inl (fun _ => 0)) (fun cA => rfl) (by decide) (by decide) (by decide) (Nat.le_of_ble_eq_true rfl) (Nat.le_of_ble_eq_true rfl) dX4_init_7 (fun q0 => ?_)
  refine y_eq (ws' := [(h, .inr (4, [.null, .null, .null, .int 0, .int 0, .int 0, .int 0, .int 0, .int 0, .int 0])), (q0, .inl (X.2.1 0, 45, .inl (fun _ => 0)))]) rfl ?_
  refine y_putF S hI fp_RX4_9 rfl rfl (by decide) dX4_init_9 ?_
  refine y_eq (ws' := [(h, .inr (4, [.ref q0, .null, .null, .int 0, .int 0, .int 0, .int 0, .int 0, .int 0, .int 0])), (q0, .inl (X.2.1 0, 45, .inl (fun _ => 0)))]) rfl ?_
  refine y_aload_n S dX4_init_12 rfl 0 rfl ?_
  refine y_bipush (v := 50) S dX4_init_13 (by decide) ?_
  refine y_newa S 0 ac_int rfl rfl (N' := 50) (xa := .inl (fun _ => 0)) (fun cA => rfl) (by decide) (by decide) (by decide) (Nat.le_of_ble_eq_true rfl) (Nat.le_of_ble_eq_true rfl) dX4_init_15 (fun q1 => ?_)
  refine y_eq (ws' := [(h, .inr (4, [.ref q0, .null, .null, .int 0, .int 0, .int 0, .int 0, .int 0, .int 0, .int 0])), (q0, .inl (X.2.1 0, 45, .inl (fun _ => 0))), (q1, .inl (X.2.1 0, 50, .inl (fun _ => 0)))]) rfl ?_
  refine y_putF S hI fp_RX4_15 rfl rfl (by decide) dX4_init_17 ?_
  refine y_eq (ws' := [(h, .inr (4, [.ref q0, .ref q1, .null, .int 0, .int 0, .int 0, .int 0, .int 0, .int 0, .int 0])), (q0, .inl (X.2.1 0, 45, .inl (fun _ => 0))), (q1, .inl (X.2.1 0, 50, .inl (fun _ => 0)))]) rfl ?_
  refine y_aload_n S dX4_init_20 rfl 0 rfl ?_
  refine y_sipush (v := 300) S dX4_init_21 (by decide) ?_
  refine y_newa S 0 ac_int rfl rfl (N' := 300) (xa := .inl (fun _ => 0)) (fun cA => rfl) (by decide) (by decide) (by decide) (Nat.le_of_ble_eq_true rfl) (Nat.le_of_ble_eq_true rfl) dX4_init_24 (fun q2 => ?_)
  refine y_eq (ws' := [(h, .inr (4, [.ref q0, .ref q1, .null, .int 0, .int 0, .int 0, .int 0, .int 0, .int 0, .int 0])), (q0, .inl (X.2.1 0, 45, .inl (fun _ => 0))), (q1, .inl (X.2.1 0, 50, .inl (fun _ => 0))), (q2, .inl (X.2.1 0, 300, .inl (fun _ => 0)))]) rfl ?_
  refine y_putF S hI fp_RX4_18 rfl rfl (by decide) dX4_init_26 ?_
  refine y_eq (ws' := [(h, .inr (4, [.ref q0, .ref q1, .ref q2, .int 0, .int 0, .int 0, .int 0, .int 0, .int 0, .int 0])), (q0, .inl (X.2.1 0, 45, .inl (fun _ => 0))), (q1, .inl (X.2.1 0, 50, .inl (fun _ => 0))), (q2, .inl (X.2.1 0, 300, .inl (fun _ => 0)))]) rfl ?_
  refine y_aload_n S dX4_init_29 rfl 0 rfl ?_
  refine y_iconst (v := 2) S dX4_init_30 (by decide) ?_
  refine y_putV S fp_RX4_21 rfl rfl (by decide) dX4_init_31 ?_
  refine y_eq (ws' := [(h, .inr (4, [.ref q0, .ref q1, .ref q2, .int 0, .int 0, .int 0, .int 2, .int 0, .int 0, .int 0])), (q0, .inl (X.2.1 0, 45, .inl (fun _ => 0))), (q1, .inl (X.2.1 0, 50, .inl (fun _ => 0))), (q2, .inl (X.2.1 0, 300, .inl (fun _ => 0)))]) rfl ?_
  refine y_aload_n S dX4_init_34 rfl 0 rfl ?_
  refine y_iconst (v := 1) S dX4_init_35 (by decide) ?_
  refine y_putV S fp_RX4_25 rfl rfl (by decide) dX4_init_36 ?_
  refine y_eq (ws' := [(h, .inr (4, [.ref q0, .ref q1, .ref q2, .int 0, .int 0, .int 0, .int 2, .int 0, .int 1, .int 0])), (q0, .inl (X.2.1 0, 45, .inl (fun _ => 0))), (q1, .inl (X.2.1 0, 50, .inl (fun _ => 0))), (q2, .inl (X.2.1 0, 300, .inl (fun _ => 0)))]) rfl ?_
  exact y_vret S hr hlk (fun i => [q0, q1, q2].getD i 0) rfl (Nat.le_of_ble_eq_true rfl) (Nat.le_of_ble_eq_true rfl) dX4_init_39
def Wc_X2_init (X : Cx) (h : Nat) (u : Nat → Nat) : va_W := [(h, .inr (2, [.ref (u 0), .ref (u 1), .ref (u 2), .ref (u 3), .ref (u 4), .int 0, .int (-1)])), ((u 0), .inl (X.2.1 0, 12, .inl (fun _ => 0))), ((u 1), .inl (X.2.1 0, 12, .inl (fun _ => 0))), ((u 2), .inl (X.2.1 0, 12, .inl (fun _ => 0))), ((u 3), .inl (X.2.1 0, 400, .inl (fun _ => 0))), ((u 4), .inl (X.2.1 0, 6, .inl (fun _ => 0)))]
def rm_X2_init : Room := rmx 1 12 5 442
set_option maxRecDepth 100000 in
set_option maxHeartbeats 8000000 in
theorem KC_X2_init {X : Cx} {l : Launch} : KC X l yX2_init (wz yX2_init cX2_init 1 none) rm_X2_init 5 442 2 [.null, .null, .null, .null, .null, .int 0, .int 0] (Wc_X2_init X) := by
  refine KC_of (own := RX2) (by decide +kernel) rfl (Nat.le_of_ble_eq_true rfl) rfl (fun A h p e s m args below meth c S hI hr hlk => ?_)
  refine y_aload_n S dX2_init_0 rfl 0 rfl ?_
  refine y_objInit S oi_RX2_3 oi_a oi_b dX2_init_1 (Nat.le_of_ble_eq_true rfl) (Nat.le_of_ble_eq_true rfl) ?_
  refine y_aload_n S dX2_init_4 rfl 0 rfl ?_
  refine y_bipush (v := 12) S dX2_init_5 (by decide) ?_
  refine y_newa S 0 ac_int rfl rfl (N' := 12) (xa := .inl (fun _ => 0)) (fun cA => rfl) (by decide) (by decide) (by decide) (Nat.le_of_ble_eq_true rfl) (Nat.le_of_ble_eq_true rfl) dX2_init_7 (fun q0 => ?_)
  refine y_eq (ws' := [(h, .inr (2, [.null, .null, .null, .null, .null, .int 0, .int 0])), (q0, .inl (X.2.1 0, 12, .inl (fun _ => 0)))]) rfl ?_
  refine y_putF S hI fp_RX2_9 rfl rfl (by decide) dX2_init_9 ?_
  refine y_eq (ws' := [(h, .inr (2, [.ref q0, .null, .null, .null, .null, .int 0, .int 0])), (q0, .inl (X.2.1 0, 12, .inl (fun _ => 0)))]) rfl ?_
  refine y_aload_n S dX2_init_12 rfl 0 rfl ?_
  refine y_bipush (v := 12) S dX2_init_13 (by decide) ?_
  refine y_newa S 0 ac_int rfl rfl (N' := 12) (xa := .inl (fun _ => 0)) (fun cA => rfl) (by decide) (by decide) (by decide) (Nat.le_of_ble_eq_true rfl) (Nat.le_of_ble_eq_true rfl) dX2_init_15 (fun q1 => ?_)
  refine y_eq (ws' := [(h, .inr (2, [.ref q0, .null, .null, .null, .null, .int 0, .int 0])), (q0, .inl (X.2.1 0, 12, .inl (fun _ => 0))), (q1, .inl (X.2.1 0, 12, .inl (fun _ => 0)))]) rfl ?_
  refine y_putF S hI fp_RX2_15 rfl rfl (by decide) dX2_init_17 ?_
  refine y_eq (ws' := [(h, .inr (2, [.ref q0, .ref q1, .null, .null, .null, .int 0, .int 0])), (q0, .inl (X.2.1 0, 12, .inl (fun _ => 0))), (q1, .inl (X.2.1 0, 12, .inl (fun _ => 0)))]) rfl ?_
  refine y_aload_n S dX2_init_20 rfl 0 rfl ?_
  refine y_bipush (v := 12) S dX2_init_21 (by decide) ?_
  refine y_newa S 0 ac_int rfl rfl (N' := 12) (xa := .inl (fun _ => 0)) (fun cA => rfl) (by decide) (by decide) (by decide) (Nat.le_of_ble_eq_true rfl) (Nat.le_of_ble_eq_true rfl) dX2_init_23 (fun q2 => ?_)
  refine y_eq (ws' := [(h, .inr (2, [.ref q0, .ref q1, .null, .null, .null, .int 0, .int 0])), (q0, .inl (X.2.1 0, 12, .inl (fun _ => 0))), (q1, .inl (X.2.1 0, 12, .inl (fun _ => 0))), (q2, .inl (X.2.1 0, 12, .inl (fun _ => 0)))]) rfl ?_
  refine y_putF S hI fp_RX2_18 rfl rfl (by decide) dX2_init_25 ?_
  refine y_eq (ws' := [(h, .inr (2, [.ref q0, .ref q1, .ref q2, .null, .null, .int 0, .int 0])), (q0, .inl (X.2.1 0, 12, .inl (fun _ => 0))), (q1, .inl (X.2.1 0, 12, .inl (fun _ => 0))), (q2, .inl (X.2.1 0, 12, .inl (fun _ => 0)))]) rfl ?_
  refine y_aload_n S dX2_init_28 rfl 0 rfl ?_
  refine y_sipush (v := 400) S dX2_init_29 (by decide) ?_
  refine y_newa S 0 ac_int rfl rfl (N' := 400) (xa := .inl (fun _ => 0)) (fun cA => rfl) (by decide) (by decide) (by decide) (Nat.le_of_ble_eq_true rfl) (Nat.le_of_ble_eq_true rfl) dX2_init_32 (fun q3 => ?_)
  refine y_eq (ws' := [(h, .inr (2, [.ref q0, .ref q1, .ref q2, .null, .null, .int 0, .int 0])), (q0, .inl (X.2.1 0, 12, .inl (fun _ => 0))), (q1, .inl (X.2.1 0, 12, .inl (fun _ => 0))), (q2, .inl (X.2.1 0, 12, .inl (fun _ => 0))), (q3, .inl (X.2.1 0, 400, .inl (fun _ => 0)))]) rfl ?_
  refine y_putF S hI fp_RX2_21 rfl rfl (by decide) dX2_init_34 ?_
  refine y_eq (ws' := [(h, .inr (2, [.ref q0, .ref q1, .ref q2, .ref q3, .null, .int 0, .int 0])), (q0, .inl (X.2.1 0, 12, .inl (fun _ => 0))), (q1, .inl (X.2.1 0, 12, .inl (fun _ => 0))), (q2, .inl (X.2.1 0, 12, .inl (fun _ => 0))), (q3, .inl (X.2.1 0, 400, .inl (fun _ => 0)))]) rfl ?_
  refine y_aload_n S dX2_init_37 rfl 0 rfl ?_
  refine y_bipush (v := 6) S dX2_init_38 (by decide) ?_
  refine y_newa S 0 ac_int rfl rfl (N' := 6) (xa := .inl (fun _ => 0)) (fun cA => rfl) (by decide) (by decide) (by decide) (Nat.le_of_ble_eq_true rfl) (Nat.le_of_ble_eq_true rfl) dX2_init_40 (fun q4 => ?_)
  refine y_eq (ws' := [(h, .inr (2, [.ref q0, .ref q1, .ref q2, .ref q3, .null, .int 0, .int 0])), (q0, .inl (X.2.1 0, 12, .inl (fun _ => 0))), (q1, .inl (X.2.1 0, 12, .inl (fun _ => 0))), (q2, .inl (X.2.1 0, 12, .inl (fun _ => 0))), (q3, .inl (X.2.1 0, 400, .inl (fun _ => 0))), (q4, .inl (X.2.1 0, 6, .inl (fun _ => 0)))]) rfl ?_
  refine y_putF S hI fp_RX2_24 rfl rfl (by decide) dX2_init_42 ?_
  refine y_eq (ws' := [(h, .inr (2, [.ref q0, .ref q1, .ref q2, .ref q3, .ref q4, .int 0, .int 0])), (q0, .inl (X.2.1 0, 12, .inl (fun _ => 0))), (q1, .inl (X.2.1 0, 12, .inl (fun _ => 0))), (q2, .inl (X.2.1 0, 12, .inl (fun _ => 0))), (q3, .inl (X.2.1 0, 400, .inl (fun _ => 0))), (q4, .inl (X.2.1 0, 6, .inl (fun _ => 0)))]) rfl ?_
  refine y_aload_n S dX2_init_45 rfl 0 rfl ?_
  refine y_iconst (v := (-1)) S dX2_init_46 (by decide) ?_
  refine y_putV S fp_RX2_27 rfl rfl (by decide) dX2_init_47 ?_
  refine y_eq (ws' := [(h, .inr (2, [.ref q0, .ref q1, .ref q2, .ref q3, .ref q4, .int 0, .int (-1)])), (q0, .inl (X.2.1 0, 12, .inl (fun _ => 0))), (q1, .inl (X.2.1 0, 12, .inl (fun _ => 0))), (q2, .inl (X.2.1 0, 12, .inl (fun _ => 0))), (q3, .inl (X.2.1 0, 400, .inl (fun _ => 0))), (q4, .inl (X.2.1 0, 6, .inl (fun _ => 0)))]) rfl ?_
  exact y_vret S hr hlk (fun i => [q0, q1, q2, q3, q4].getD i 0) rfl (Nat.le_of_ble_eq_true rfl) (Nat.le_of_ble_eq_true rfl) dX2_init_50
def Wc_X6_init (X : Cx) (h : Nat) (u : Nat → Nat) : va_W := [(h, .inr (6, [.ref (u 0), .ref (u 1), .ref (u 2), .ref (u 3)])), ((u 0), .inl (X.2.1 0, 90, .inl (fun _ => 0))), ((u 1), .inl (X.2.1 0, 9, .inl (fun _ => 0))), ((u 2), .inl (X.2.1 0, 10, .inl (fun _ => 0))), ((u 3), .inl (X.2.1 0, 9, .inl (fun _ => 0)))]
def rm_X6_init : Room := rmx 1 12 4 118
set_option maxRecDepth 100000 in
set_option maxHeartbeats 8000000 in
theorem KC_X6_init {X : Cx} {l : Launch} : KC X l yX6_init (wz yX6_init cX6_init 1 none) rm_X6_init 4 118 6 [.null, .null, .null, .null] (Wc_X6_init X) := by
  refine KC_of (own := RX6) (by decide +kernel) rfl (Nat.le_of_ble_eq_true rfl) rfl (fun A h p e s m args below meth c S hI hr hlk => ?_)
  refine y_aload_n S dX6_init_0 rfl 0 rfl ?_
  refine y_objInit S oi_RX6_3 oi_a oi_b dX6_init_1 (Nat.le_of_ble_eq_true rfl) (Nat.le_of_ble_eq_true rfl) ?_
  refine y_aload_n S dX6_init_4 rfl 0 rfl ?_
  refine y_bipush (v := 90) S dX6_init_5 (by decide) ?_
  refine y_newa S 0 ac_int rfl rfl (N' := 90) (xa := .inl (fun _ => 0)) (fun cA => rfl) (by decide) (by decide) (by decide) (Nat.le_of_ble_eq_true rfl) (Nat.le_of_ble_eq_true rfl) dX6_init_7 (fun q0 => ?_)
  refine y_eq (ws' := [(h, .inr (6, [.null, .null, .null, .null])), (q0, .inl (X.2.1 0, 90, .inl (fun _ => 0)))]) rfl ?_
  refine y_putF S hI fp_RX6_9 rfl rfl (by decide) dX6_init_9 ?_
  refine y_eq (ws' := [(h, .inr (6, [.ref q0, .null, .null, .null])), (q0, .inl (X.2.1 0, 90, .inl (fun _ => 0)))]) rfl ?_
  refine y_aload_n S dX6_init_12 rfl 0 rfl ?_
  refine y_bipush (v := 9) S dX6_init_13 (by decide) ?_
  refine y_newa S 0 ac_int rfl rfl (N' := 9) (xa := .inl (fun _ => 0)) (fun cA => rfl) (by decide) (by decide) (by decide) (Nat.le_of_ble_eq_true rfl) (Nat.le_of_ble_eq_true rfl) dX6_init_15 (fun q1 => ?_)
  refine y_eq (ws' := [(h, .inr (6, [.ref q0, .null, .null, .null])), (q0, .inl (X.2.1 0, 90, .inl (fun _ => 0))), (q1, .inl (X.2.1 0, 9, .inl (fun _ => 0)))]) rfl ?_
  refine y_putF S hI fp_RX6_15 rfl rfl (by decide) dX6_init_17 ?_
  refine y_eq (ws' := [(h, .inr (6, [.ref q0, .ref q1, .null, .null])), (q0, .inl (X.2.1 0, 90, .inl (fun _ => 0))), (q1, .inl (X.2.1 0, 9, .inl (fun _ => 0)))]) rfl ?_
  refine y_aload_n S dX6_init_20 rfl 0 rfl ?_
  refine y_bipush (v := 10) S dX6_init_21 (by decide) ?_
  refine y_newa S 0 ac_int rfl rfl (N' := 10) (xa := .inl (fun _ => 0)) (fun cA => rfl) (by decide) (by decide) (by decide) (Nat.le_of_ble_eq_true rfl) (Nat.le_of_ble_eq_true rfl) dX6_init_23 (fun q2 => ?_)
  refine y_eq (ws' := [(h, .inr (6, [.ref q0, .ref q1, .null, .null])), (q0, .inl (X.2.1 0, 90, .inl (fun _ => 0))), (q1, .inl (X.2.1 0, 9, .inl (fun _ => 0))), (q2, .inl (X.2.1 0, 10, .inl (fun _ => 0)))]) rfl ?_
  refine y_putF S hI fp_RX6_18 rfl rfl (by decide) dX6_init_25 ?_
  refine y_eq (ws' := [(h, .inr (6, [.ref q0, .ref q1, .ref q2, .null])), (q0, .inl (X.2.1 0, 90, .inl (fun _ => 0))), (q1, .inl (X.2.1 0, 9, .inl (fun _ => 0))), (q2, .inl (X.2.1 0, 10, .inl (fun _ => 0)))]) rfl ?_
  refine y_aload_n S dX6_init_28 rfl 0 rfl ?_
  refine y_bipush (v := 9) S dX6_init_29 (by decide) ?_
  refine y_newa S 0 ac_int rfl rfl (N' := 9) (xa := .inl (fun _ => 0)) (fun cA => rfl) (by decide) (by decide) (by decide) (Nat.le_of_ble_eq_true rfl) (Nat.le_of_ble_eq_true rfl) dX6_init_31 (fun q3 => ?_)
  refine y_eq (ws' := [(h, .inr (6, [.ref q0, .ref q1, .ref q2, .null])), (q0, .inl (X.2.1 0, 90, .inl (fun _ => 0))), (q1, .inl (X.2.1 0, 9, .inl (fun _ => 0))), (q2, .inl (X.2.1 0, 10, .inl (fun _ => 0))), (q3, .inl (X.2.1 0, 9, .inl (fun _ => 0)))]) rfl ?_
  refine y_putF S hI fp_RX6_21 rfl rfl (by decide) dX6_init_33 ?_
  refine y_eq (ws' := [(h, .inr (6, [.ref q0, .ref q1, .ref q2, .ref q3])), (q0, .inl (X.2.1 0, 90, .inl (fun _ => 0))), (q1, .inl (X.2.1 0, 9, .inl (fun _ => 0))), (q2, .inl (X.2.1 0, 10, .inl (fun _ => 0))), (q3, .inl (X.2.1 0, 9, .inl (fun _ => 0)))]) rfl ?_
  exact y_vret S hr hlk (fun i => [q0, q1, q2, q3].getD i 0) rfl (Nat.le_of_ble_eq_true rfl) (Nat.le_of_ble_eq_true rfl) dX6_init_36
def Wc_X5_init (X : Cx) (h : Nat) (u : Nat → Nat) : va_W := [(h, .inr (5, [.ref (u 0), .ref (u 1), .int 0, .int 0, .int 0])), ((u 0), .inl (X.2.1 0, 9, .inl (fun _ => 0))), ((u 1), .inl (X.2.1 0, 9, .inl (fun _ => 0)))]
def rm_X5_init : Room := rmx 1 12 2 18
set_option maxRecDepth 100000 in
set_option maxHeartbeats 8000000 in
theorem KC_X5_init {X : Cx} {l : Launch} : KC X l yX5_init (wz yX5_init cX5_init 1 none) rm_X5_init 2 18 5 [.null, .null, .int 0, .int 0, .int 0] (Wc_X5_init X) := by
  refine KC_of (own := RX5) (by decide +kernel) rfl (Nat.le_of_ble_eq_true rfl) rfl (fun A h p e s m args below meth c S hI hr hlk => ?_)
  refine y_aload_n S dX5_init_0 rfl 0 rfl ?_
  refine y_objInit S oi_RX5_3 oi_a oi_b dX5_init_1 (Nat.le_of_ble_eq_true rfl) (Nat.le_of_ble_eq_true rfl) ?_
  refine y_aload_n S dX5_init_4 rfl 0 rfl ?_
  refine y_bipush (v := 9) S dX5_init_5 (by decide) ?_
  refine y_newa S 0 ac_int rfl rfl (N' := 9) (xa := .inl (fun _ => 0)) (fun cA => rfl) (by decide) (by decide) (by decide) (Nat.le_of_ble_eq_true rfl) (Nat.le_of_ble_eq_true rfl) dX5_init_7 (fun q0 => ?_)
  refine y_eq (ws' := [(h, .inr (5, [.null, .null, .int 0, .int 0, .int 0])), (q0, .inl (X.2.1 0, 9, .inl (fun _ => 0)))]) rfl ?_
  refine y_putF S hI fp_RX5_9 rfl rfl (by decide) dX5_init_9 ?_
  refine y_eq (ws' := [(h, .inr (5, [.ref q0, .null, .int 0, .int 0, .int 0])), (q0, .inl (X.2.1 0, 9, .inl (fun _ => 0)))]) rfl ?_
  refine y_aload_n S dX5_init_12 rfl 0 rfl ?_
  refine y_bipush (v := 9) S dX5_init_13 (by decide) ?_
  refine y_newa S 0 ac_int rfl rfl (N' := 9) (xa := .inl (fun _ => 0)) (fun cA => rfl) (by decide) (by decide) (by decide) (Nat.le_of_ble_eq_true rfl) (Nat.le_of_ble_eq_true rfl) dX5_init_15 (fun q1 => ?_)
  refine y_eq (ws' := [(h, .inr (5, [.ref q0, .null, .int 0, .int 0, .int 0])), (q0, .inl (X.2.1 0, 9, .inl (fun _ => 0))), (q1, .inl (X.2.1 0, 9, .inl (fun _ => 0)))]) rfl ?_
  refine y_putF S hI fp_RX5_15 rfl rfl (by decide) dX5_init_17 ?_
  refine y_eq (ws' := [(h, .inr (5, [.ref q0, .ref q1, .int 0, .int 0, .int 0])), (q0, .inl (X.2.1 0, 9, .inl (fun _ => 0))), (q1, .inl (X.2.1 0, 9, .inl (fun _ => 0)))]) rfl ?_
  exact y_vret S hr hlk (fun i => [q0, q1].getD i 0) rfl (Nat.le_of_ble_eq_true rfl) (Nat.le_of_ble_eq_true rfl) dX5_init_20
def Wc_X0_init (X : Cx) (h : Nat) (u : Nat → Nat) : va_W := [(h, .inr (0, [.ref (u 0), .ref (u 1), .ref (u 2), .ref (u 3), .ref (u 4), .ref (u 5), .int 0, .int 0])), ((u 0), .inl (X.2.1 1, 90, .inr (.inl (fun _ => 0)))), ((u 1), .inl (X.2.1 0, 10, .inl (fun _ => 0))), ((u 2), .inl (X.2.1 0, 9, .inl (fun _ => 0))), ((u 3), .inl (X.2.1 1, 10, .inr (.inl (fun _ => 0)))), ((u 4), .inl (X.2.1 1, 9, .inr (.inl (fun _ => 0)))), ((u 5), .inl (X.2.1 0, 9, .inl (fun _ => 0)))]
def rm_X0_init : Room := rmx 1 12 6 137
set_option maxRecDepth 100000 in
set_option maxHeartbeats 8000000 in
theorem KC_X0_init {X : Cx} {l : Launch} : KC X l yX0_init (wz yX0_init cX0_init 1 none) rm_X0_init 6 137 0 [.null, .null, .null, .null, .null, .null, .int 0, .int 0] (Wc_X0_init X) := by
  refine KC_of (own := RX0) (by decide +kernel) rfl (Nat.le_of_ble_eq_true rfl) rfl (fun A h p e s m args below meth c S hI hr hlk => ?_)
  refine y_aload_n S dX0_init_0 rfl 0 rfl ?_
  refine y_objInit S oi_RX0_5 oi_a oi_b dX0_init_1 (Nat.le_of_ble_eq_true rfl) (Nat.le_of_ble_eq_true rfl) ?_
  refine y_aload_n S dX0_init_4 rfl 0 rfl ?_
  refine y_bipush (v := 90) S dX0_init_5 (by decide) ?_
  refine y_newa S 1 ac_long rfl rfl (N' := 90) (xa := .inr (.inl (fun _ => 0))) (fun cA => rfl) (by decide) (by decide) (by decide) (Nat.le_of_ble_eq_true rfl) (Nat.le_of_ble_eq_true rfl) dX0_init_7 (fun q0 => ?_)
  refine y_eq (ws' := [(h, .inr (0, [.null, .null, .null, .null, .null, .null, .int 0, .int 0])), (q0, .inl (X.2.1 1, 90, .inr (.inl (fun _ => 0))))]) rfl ?_
  refine y_putF S hI fp_RX0_11 rfl rfl (by decide) dX0_init_9 ?_
  refine y_eq (ws' := [(h, .inr (0, [.ref q0, .null, .null, .null, .null, .null, .int 0, .int 0])), (q0, .inl (X.2.1 1, 90, .inr (.inl (fun _ => 0))))]) rfl ?_
  refine y_aload_n S dX0_init_12 rfl 0 rfl ?_
  refine y_bipush (v := 10) S dX0_init_13 (by decide) ?_
  refine y_newa S 0 ac_int rfl rfl (N' := 10) (xa := .inl (fun _ => 0)) (fun cA => rfl) (by decide) (by decide) (by decide) (Nat.le_of_ble_eq_true rfl) (Nat.le_of_ble_eq_true rfl) dX0_init_15 (fun q1 => ?_)
  refine y_eq (ws' := [(h, .inr (0, [.ref q0, .null, .null, .null, .null, .null, .int 0, .int 0])), (q0, .inl (X.2.1 1, 90, .inr (.inl (fun _ => 0)))), (q1, .inl (X.2.1 0, 10, .inl (fun _ => 0)))]) rfl ?_
  refine y_putF S hI fp_RX0_17 rfl rfl (by decide) dX0_init_17 ?_
  refine y_eq (ws' := [(h, .inr (0, [.ref q0, .ref q1, .null, .null, .null, .null, .int 0, .int 0])), (q0, .inl (X.2.1 1, 90, .inr (.inl (fun _ => 0)))), (q1, .inl (X.2.1 0, 10, .inl (fun _ => 0)))]) rfl ?_
  refine y_aload_n S dX0_init_20 rfl 0 rfl ?_
  refine y_bipush (v := 9) S dX0_init_21 (by decide) ?_
  refine y_newa S 0 ac_int rfl rfl (N' := 9) (xa := .inl (fun _ => 0)) (fun cA => rfl) (by decide) (by decide) (by decide) (Nat.le_of_ble_eq_true rfl) (Nat.le_of_ble_eq_true rfl) dX0_init_23 (fun q2 => ?_)
  refine y_eq (ws' := [(h, .inr (0, [.ref q0, .ref q1, .null, .null, .null, .null, .int 0, .int 0])), (q0, .inl (X.2.1 1, 90, .inr (.inl (fun _ => 0)))), (q1, .inl (X.2.1 0, 10, .inl (fun _ => 0))), (q2, .inl (X.2.1 0, 9, .inl (fun _ => 0)))]) rfl ?_
  refine y_putF S hI fp_RX0_21 rfl rfl (by decide) dX0_init_25 ?_
  refine y_eq (ws' := [(h, .inr (0, [.ref q0, .ref q1, .ref q2, .null, .null, .null, .int 0, .int 0])), (q0, .inl (X.2.1 1, 90, .inr (.inl (fun _ => 0)))), (q1, .inl (X.2.1 0, 10, .inl (fun _ => 0))), (q2, .inl (X.2.1 0, 9, .inl (fun _ => 0)))]) rfl ?_
  refine y_aload_n S dX0_init_28 rfl 0 rfl ?_
  refine y_bipush (v := 10) S dX0_init_29 (by decide) ?_
  refine y_newa S 1 ac_long rfl rfl (N' := 10) (xa := .inr (.inl (fun _ => 0))) (fun cA => rfl) (by decide) (by decide) (by decide) (Nat.le_of_ble_eq_true rfl) (Nat.le_of_ble_eq_true rfl) dX0_init_31 (fun q3 => ?_)
  refine y_eq (ws' := [(h, .inr (0, [.ref q0, .ref q1, .ref q2, .null, .null, .null, .int 0, .int 0])), (q0, .inl (X.2.1 1, 90, .inr (.inl (fun _ => 0)))), (q1, .inl (X.2.1 0, 10, .inl (fun _ => 0))), (q2, .inl (X.2.1 0, 9, .inl (fun _ => 0))), (q3, .inl (X.2.1 1, 10, .inr (.inl (fun _ => 0))))]) rfl ?_
  refine y_putF S hI fp_RX0_24 rfl rfl (by decide) dX0_init_33 ?_
  refine y_eq (ws' := [(h, .inr (0, [.ref q0, .ref q1, .ref q2, .ref q3, .null, .null, .int 0, .int 0])), (q0, .inl (X.2.1 1, 90, .inr (.inl (fun _ => 0)))), (q1, .inl (X.2.1 0, 10, .inl (fun _ => 0))), (q2, .inl (X.2.1 0, 9, .inl (fun _ => 0))), (q3, .inl (X.2.1 1, 10, .inr (.inl (fun _ => 0))))]) rfl ?_
  refine y_aload_n S dX0_init_36 rfl 0 rfl ?_
  refine y_bipush (v := 9) S dX0_init_37 (by decide) ?_
  refine y_newa S 1 ac_long rfl rfl (N' := 9) (xa := .inr (.inl (fun _ => 0))) (fun cA => rfl) (by decide) (by decide) (by decide) (Nat.le_of_ble_eq_true rfl) (Nat.le_of_ble_eq_true rfl) dX0_init_39 (fun q4 => ?_)
  refine y_eq (ws' := [(h, .inr (0, [.ref q0, .ref q1, .ref q2, .ref q3, .null, .null, .int 0, .int 0])), (q0, .inl (X.2.1 1, 90, .inr (.inl (fun _ => 0)))), (q1, .inl (X.2.1 0, 10, .inl (fun _ => 0))), (q2, .inl (X.2.1 0, 9, .inl (fun _ => 0))), (q3, .inl (X.2.1 1, 10, .inr (.inl (fun _ => 0)))), (q4, .inl (X.2.1 1, 9, .inr (.inl (fun _ => 0))))]) rfl ?_
  refine y_putF S hI fp_RX0_27 rfl rfl (by decide) dX0_init_41 ?_
  refine y_eq (ws' := [(h, .inr (0, [.ref q0, .ref q1, .ref q2, .ref q3, .ref q4, .null, .int 0, .int 0])), (q0, .inl (X.2.1 1, 90, .inr (.inl (fun _ => 0)))), (q1, .inl (X.2.1 0, 10, .inl (fun _ => 0))), (q2, .inl (X.2.1 0, 9, .inl (fun _ => 0))), (q3, .inl (X.2.1 1, 10, .inr (.inl (fun _ => 0)))), (q4, .inl (X.2.1 1, 9, .inr (.inl (fun _ => 0))))]) rfl ?_
  refine y_aload_n S dX0_init_44 rfl 0 rfl ?_
  refine y_bipush (v := 9) S dX0_init_45 (by decide) ?_
  refine y_newa S 0 ac_int rfl rfl (N' := 9) (xa := .inl (fun _ => 0)) (fun cA => rfl) (by decide) (by decide) (by decide) (Nat.le_of_ble_eq_true rfl) (Nat.le_of_ble_eq_true rfl) dX0_init_47 (fun q5 => ?_)
  refine y_eq (ws' := [(h, .inr (0, [.ref q0, .ref q1, .ref q2, .ref q3, .ref q4, .null, .int 0, .int 0])), (q0, .inl (X.2.1 1, 90, .inr (.inl (fun _ => 0)))), (q1, .inl (X.2.1 0, 10, .inl (fun _ => 0))), (q2, .inl (X.2.1 0, 9, .inl (fun _ => 0))), (q3, .inl (X.2.1 1, 10, .inr (.inl (fun _ => 0)))), (q4, .inl (X.2.1 1, 9, .inr (.inl (fun _ => 0)))), (q5, .inl (X.2.1 0, 9, .inl (fun _ => 0)))]) rfl ?_
  refine y_putF S hI fp_RX0_30 rfl rfl (by decide) dX0_init_49 ?_
  refine y_eq (ws' := [(h, .inr (0, [.ref q0, .ref q1, .ref q2, .ref q3, .ref q4, .ref q5, .int 0, .int 0])), (q0, .inl (X.2.1 1, 90, .inr (.inl (fun _ => 0)))), (q1, .inl (X.2.1 0, 10, .inl (fun _ => 0))), (q2, .inl (X.2.1 0, 9, .inl (fun _ => 0))), (q3, .inl (X.2.1 1, 10, .inr (.inl (fun _ => 0)))), (q4, .inl (X.2.1 1, 9, .inr (.inl (fun _ => 0)))), (q5, .inl (X.2.1 0, 9, .inl (fun _ => 0)))]) rfl ?_
  exact y_vret S hr hlk (fun i => [q0, q1, q2, q3, q4, q5].getD i 0) rfl (Nat.le_of_ble_eq_true rfl) (Nat.le_of_ble_eq_true rfl) dX0_init_52
def Wc_X7_init (X : Cx) (h : Nat) (u : Nat → Nat) : va_W := [(h, .inr (7, [.ref (u 0), .ref (u 1), .ref (u 2), .int 0, .int 0, .ref (X.2.2 330), .int 0, .int 0, .int (-1)])), ((u 0), .inl (X.2.1 3, 401, .inr (.inr (.inr (.inr (fun _ => none)))))), ((u 1), .inl (X.2.1 0, 401, .inl (fun _ => 0))), ((u 2), .inl (X.2.1 0, 401, .inl (fun _ => 0)))]
def rm_X7_init : Room := rmx 1 12 3 1203
set_option maxRecDepth 100000 in
set_option maxHeartbeats 8000000 in
theorem KC_X7_init {X : Cx} {l : Launch} : KC X l yX7_init (wz yX7_init cX7_init 1 none) rm_X7_init 3 1203 7 [.null, .null, .null, .int 0, .int 0, .null, .int 0, .int 0, .int 0] (Wc_X7_init X) := by
  refine KC_of (own := RX7) (by decide +kernel) rfl (Nat.le_of_ble_eq_true rfl) rfl (fun A h p e s m args below meth c S hI hr hlk => ?_)
  refine y_aload_n S dX7_init_0 rfl 0 rfl ?_
  refine y_objInit S oi_RX7_3 oi_a oi_b dX7_init_1 (Nat.le_of_ble_eq_true rfl) (Nat.le_of_ble_eq_true rfl) ?_
  refine y_aload_n S dX7_init_4 rfl 0 rfl ?_
  refine y_sipush (v := 401) S dX7_init_5 (by decide) ?_
  refine y_newq S 3 cl_RX7_9 S.2.2.2.1 rfl (N' := 401) (by decide) (by decide) (by decide) (Nat.le_of_ble_eq_true rfl) (Nat.le_of_ble_eq_true rfl) dX7_init_8 (fun q0 => ?_)
  refine y_eq (ws' := [(h, .inr (7, [.null, .null, .null, .int 0, .int 0, .null, .int 0, .int 0, .int 0])), (q0, .inl (X.2.1 3, 401, .inr (.inr (.inr (.inr (fun _ => none))))))]) rfl ?_
  refine y_putF S hI fp_RX7_11 rfl rfl (by decide) dX7_init_11 ?_
  refine y_eq (ws' := [(h, .inr (7, [.ref q0, .null, .null, .int 0, .int 0, .null, .int 0, .int 0, .int 0])), (q0, .inl (X.2.1 3, 401, .inr (.inr (.inr (.inr (fun _ => none))))))]) rfl ?_
  refine y_aload_n S dX7_init_14 rfl 0 rfl ?_
  refine y_sipush (v := 401) S dX7_init_15 (by decide) ?_
  refine y_newa S 0 ac_int rfl rfl (N' := 401) (xa := .inl (fun _ => 0)) (fun cA => rfl) (by decide) (by decide) (by decide) (Nat.le_of_ble_eq_true rfl) (Nat.le_of_ble_eq_true rfl) dX7_init_18 (fun q1 => ?_)
  refine y_eq (ws' := [(h, .inr (7, [.ref q0, .null, .null, .int 0, .int 0, .null, .int 0, .int 0, .int 0])), (q0, .inl (X.2.1 3, 401, .inr (.inr (.inr (.inr (fun _ => none)))))), (q1, .inl (X.2.1 0, 401, .inl (fun _ => 0)))]) rfl ?_
  refine y_putF S hI fp_RX7_17 rfl rfl (by decide) dX7_init_20 ?_
  refine y_eq (ws' := [(h, .inr (7, [.ref q0, .ref q1, .null, .int 0, .int 0, .null, .int 0, .int 0, .int 0])), (q0, .inl (X.2.1 3, 401, .inr (.inr (.inr (.inr (fun _ => none)))))), (q1, .inl (X.2.1 0, 401, .inl (fun _ => 0)))]) rfl ?_
  refine y_aload_n S dX7_init_23 rfl 0 rfl ?_
  refine y_sipush (v := 401) S dX7_init_24 (by decide) ?_
  refine y_newa S 0 ac_int rfl rfl (N' := 401) (xa := .inl (fun _ => 0)) (fun cA => rfl) (by decide) (by decide) (by decide) (Nat.le_of_ble_eq_true rfl) (Nat.le_of_ble_eq_true rfl) dX7_init_27 (fun q2 => ?_)
  refine y_eq (ws' := [(h, .inr (7, [.ref q0, .ref q1, .null, .int 0, .int 0, .null, .int 0, .int 0, .int 0])), (q0, .inl (X.2.1 3, 401, .inr (.inr (.inr (.inr (fun _ => none)))))), (q1, .inl (X.2.1 0, 401, .inl (fun _ => 0))), (q2, .inl (X.2.1 0, 401, .inl (fun _ => 0)))]) rfl ?_
  refine y_putF S hI fp_RX7_21 rfl rfl (by decide) dX7_init_29 ?_
  refine y_eq (ws' := [(h, .inr (7, [.ref q0, .ref q1, .ref q2, .int 0, .int 0, .null, .int 0, .int 0, .int 0])), (q0, .inl (X.2.1 3, 401, .inr (.inr (.inr (.inr (fun _ => none)))))), (q1, .inl (X.2.1 0, 401, .inl (fun _ => 0))), (q2, .inl (X.2.1 0, 401, .inl (fun _ => 0)))]) rfl ?_
  refine y_aload_n S dX7_init_32 rfl 0 rfl ?_
  refine y_getsR (i := 30) (j := 330) S (by decide) rfl rfl gwc_RX7_24 dX7_init_33 ?_
  refine y_putV S fp_RX7_28 rfl rfl (by decide) dX7_init_36 ?_
  refine y_eq (ws' := [(h, .inr (7, [.ref q0, .ref q1, .ref q2, .int 0, .int 0, .ref (X.2.2 330), .int 0, .int 0, .int 0])), (q0, .inl (X.2.1 3, 401, .inr (.inr (.inr (.inr (fun _ => none)))))), (q1, .inl (X.2.1 0, 401, .inl (fun _ => 0))), (q2, .inl (X.2.1 0, 401, .inl (fun _ => 0)))]) rfl ?_
  refine y_aload_n S dX7_init_39 rfl 0 rfl ?_
  refine y_iconst (v := (-1)) S dX7_init_40 (by decide) ?_
  refine y_putV S fp_RX7_31 rfl rfl (by decide) dX7_init_41 ?_
  refine y_eq (ws' := [(h, .inr (7, [.ref q0, .ref q1, .ref q2, .int 0, .int 0, .ref (X.2.2 330), .int 0, .int 0, .int (-1)])), (q0, .inl (X.2.1 3, 401, .inr (.inr (.inr (.inr (fun _ => none)))))), (q1, .inl (X.2.1 0, 401, .inl (fun _ => 0))), (q2, .inl (X.2.1 0, 401, .inl (fun _ => 0)))]) rfl ?_
  exact y_vret S hr hlk (fun i => [q0, q1, q2].getD i 0) rfl (Nat.le_of_ble_eq_true rfl) (Nat.le_of_ble_eq_true rfl) dX7_init_44
def Wc_X1_init (X : Cx) (h : Nat) (u : Nat → Nat) : va_W := [(h, .inr (1, [.ref (u 0), .int 0])), ((u 0), .inr (7, [.ref (u 1), .ref (u 2), .ref (u 3), .int 0, .int 0, .ref (X.2.2 330), .int 0, .int 0, .int (-1)])), ((u 1), .inl (X.2.1 3, 401, .inr (.inr (.inr (.inr (fun _ => none)))))), ((u 2), .inl (X.2.1 0, 401, .inl (fun _ => 0))), ((u 3), .inl (X.2.1 0, 401, .inl (fun _ => 0)))]
def rm_X1_init : Room := rmx 2 32 4 1212
set_option maxRecDepth 100000 in
set_option maxHeartbeats 8000000 in
theorem KC_X1_init {X : Cx} {l : Launch} : KC X l yX1_init (wz yX1_init cX1_init 1 none) rm_X1_init 4 1212 1 [.null, .int 0] (Wc_X1_init X) := by
  refine KC_of (own := RX1) (by decide +kernel) rfl (Nat.le_of_ble_eq_true rfl) rfl (fun A h p e s m args below meth c S hI hr hlk => ?_)
  refine y_aload_n S dX1_init_0 rfl 0 rfl ?_
  refine y_objInit S oi_RX1_3 oi_a oi_b dX1_init_1 (Nat.le_of_ble_eq_true rfl) (Nat.le_of_ble_eq_true rfl) ?_
  refine y_aload_n S dX1_init_4 rfl 0 rfl ?_
  refine y_new S nf_RX1_9 (Nat.le_of_ble_eq_true rfl) (Nat.le_of_ble_eq_true rfl) dX1_init_5 (fun q0 => ?_)
  refine y_dup S dX1_init_8 ?_
  refine y_cN S ci_RX1_11 (KC_X7_init (X := X) (l := l)) ⟨rfl, rfl⟩ ⟨Nat.le_of_ble_eq_true rfl, Nat.le_of_ble_eq_true rfl⟩ ⟨Nat.le_of_ble_eq_true rfl, Nat.le_of_ble_eq_true rfl⟩ (by decide) dX1_init_9 (fun u1 => ?_)
  refine y_eq (ws' := [(h, .inr (1, [.null, .int 0])), (q0, .inr (7, [.ref (u1 0), .ref (u1 1), .ref (u1 2), .int 0, .int 0, .ref (X.2.2 330), .int 0, .int 0, .int (-1)])), ((u1 0), .inl (X.2.1 3, 401, .inr (.inr (.inr (.inr (fun _ => none)))))), ((u1 1), .inl (X.2.1 0, 401, .inl (fun _ => 0))), ((u1 2), .inl (X.2.1 0, 401, .inl (fun _ => 0)))]) rfl ?_
  refine y_putF S hI fp_RX1_12 rfl rfl (by decide) dX1_init_12 ?_
  refine y_eq (ws' := [(h, .inr (1, [.ref q0, .int 0])), (q0, .inr (7, [.ref (u1 0), .ref (u1 1), .ref (u1 2), .int 0, .int 0, .ref (X.2.2 330), .int 0, .int 0, .int (-1)])), ((u1 0), .inl (X.2.1 3, 401, .inr (.inr (.inr (.inr (fun _ => none)))))), ((u1 1), .inl (X.2.1 0, 401, .inl (fun _ => 0))), ((u1 2), .inl (X.2.1 0, 401, .inl (fun _ => 0)))]) rfl ?_
  exact y_vret S hr hlk (fun i => [q0, (u1 0), (u1 1), (u1 2)].getD i 0) rfl (Nat.le_of_ble_eq_true rfl) (Nat.le_of_ble_eq_true rfl) dX1_init_15
def Wc_X3_init (X : Cx) (h : Nat) (u : Nat → Nat) : va_W := [(h, .inr (3, [.ref (u 0), .ref (u 4), .int 0, .int 0])), ((u 0), .inr (7, [.ref (u 1), .ref (u 2), .ref (u 3), .int 0, .int 0, .ref (X.2.2 330), .int 0, .int 0, .int (-1)])), ((u 1), .inl (X.2.1 3, 401, .inr (.inr (.inr (.inr (fun _ => none)))))), ((u 2), .inl (X.2.1 0, 401, .inl (fun _ => 0))), ((u 3), .inl (X.2.1 0, 401, .inl (fun _ => 0))), ((u 4), .inl (X.2.1 0, 21, .inl (fun _ => 0)))]
def rm_X3_init : Room := rmx 2 32 5 1233
set_option maxRecDepth 100000 in
set_option maxHeartbeats 8000000 in
theorem KC_X3_init {X : Cx} {l : Launch} : KC X l yX3_init (wz yX3_init cX3_init 1 none) rm_X3_init 5 1233 3 [.null, .null, .int 0, .int 0] (Wc_X3_init X) := by
  refine KC_of (own := RX3) (by decide +kernel) rfl (Nat.le_of_ble_eq_true rfl) rfl (fun A h p e s m args below meth c S hI hr hlk => ?_)
  refine y_aload_n S dX3_init_0 rfl 0 rfl ?_
  refine y_objInit S oi_RX3_5 oi_a oi_b dX3_init_1 (Nat.le_of_ble_eq_true rfl) (Nat.le_of_ble_eq_true rfl) ?_
  refine y_aload_n S dX3_init_4 rfl 0 rfl ?_
  refine y_new S nf_RX3_11 (Nat.le_of_ble_eq_true rfl) (Nat.le_of_ble_eq_true rfl) dX3_init_5 (fun q0 => ?_)
  refine y_dup S dX3_init_8 ?_
  refine y_cN S ci_RX3_13 (KC_X7_init (X := X) (l := l)) ⟨rfl, rfl⟩ ⟨Nat.le_of_ble_eq_true rfl, Nat.le_of_ble_eq_true rfl⟩ ⟨Nat.le_of_ble_eq_true rfl, Nat.le_of_ble_eq_true rfl⟩ (by decide) dX3_init_9 (fun u1 => ?_)
  refine y_eq (ws' := [(h, .inr (3, [.null, .null, .int 0, .int 0])), (q0, .inr (7, [.ref (u1 0), .ref (u1 1), .ref (u1 2), .int 0, .int 0, .ref (X.2.2 330), .int 0, .int 0, .int (-1)])), ((u1 0), .inl (X.2.1 3, 401, .inr (.inr (.inr (.inr (fun _ => none)))))), ((u1 1), .inl (X.2.1 0, 401, .inl (fun _ => 0))), ((u1 2), .inl (X.2.1 0, 401, .inl (fun _ => 0)))]) rfl ?_
  refine y_putF S hI fp_RX3_14 rfl rfl (by decide) dX3_init_12 ?_
  refine y_eq (ws' := [(h, .inr (3, [.ref q0, .null, .int 0, .int 0])), (q0, .inr (7, [.ref (u1 0), .ref (u1 1), .ref (u1 2), .int 0, .int 0, .ref (X.2.2 330), .int 0, .int 0, .int (-1)])), ((u1 0), .inl (X.2.1 3, 401, .inr (.inr (.inr (.inr (fun _ => none)))))), ((u1 1), .inl (X.2.1 0, 401, .inl (fun _ => 0))), ((u1 2), .inl (X.2.1 0, 401, .inl (fun _ => 0)))]) rfl ?_
  refine y_aload_n S dX3_init_15 rfl 0 rfl ?_
  refine y_bipush (v := 21) S dX3_init_16 (by decide) ?_
  refine y_newa S 0 ac_int rfl rfl (N' := 21) (xa := .inl (fun _ => 0)) (fun cA => rfl) (by decide) (by decide) (by decide) (Nat.le_of_ble_eq_true rfl) (Nat.le_of_ble_eq_true rfl) dX3_init_18 (fun q4 => ?_)
  refine y_eq (ws' := [(h, .inr (3, [.ref q0, .null, .int 0, .int 0])), (q0, .inr (7, [.ref (u1 0), .ref (u1 1), .ref (u1 2), .int 0, .int 0, .ref (X.2.2 330), .int 0, .int 0, .int (-1)])), ((u1 0), .inl (X.2.1 3, 401, .inr (.inr (.inr (.inr (fun _ => none)))))), ((u1 1), .inl (X.2.1 0, 401, .inl (fun _ => 0))), ((u1 2), .inl (X.2.1 0, 401, .inl (fun _ => 0))), (q4, .inl (X.2.1 0, 21, .inl (fun _ => 0)))]) rfl ?_
  refine y_putF S hI fp_RX3_20 rfl rfl (by decide) dX3_init_20 ?_
  refine y_eq (ws' := [(h, .inr (3, [.ref q0, .ref q4, .int 0, .int 0])), (q0, .inr (7, [.ref (u1 0), .ref (u1 1), .ref (u1 2), .int 0, .int 0, .ref (X.2.2 330), .int 0, .int 0, .int (-1)])), ((u1 0), .inl (X.2.1 3, 401, .inr (.inr (.inr (.inr (fun _ => none)))))), ((u1 1), .inl (X.2.1 0, 401, .inl (fun _ => 0))), ((u1 2), .inl (X.2.1 0, 401, .inl (fun _ => 0))), (q4, .inl (X.2.1 0, 21, .inl (fun _ => 0)))]) rfl ?_
  exact y_vret S hr hlk (fun i => [q0, (u1 0), (u1 1), (u1 2), q4].getD i 0) rfl (Nat.le_of_ble_eq_true rfl) (Nat.le_of_ble_eq_true rfl) dX3_init_23
def Wc_X10_init (X : Cx) (h : Nat) (u : Nat → Nat) : va_W := [(h, .inr (9, [.int 0, .ref (u 0), .ref (u 1), .int 0, .ref (u 2), .ref (u 3), .int 0, .ref (u 4), .int 0, .int 0, .int 0, .int 0, .int (-1), .int 0, .ref (u 5), .int 0, .int 0, .int 0, .ref (u 6), .ref (u 7), .ref (u 8), .ref (u 9), .ref (u 10), .ref (u 11), .ref (u 12), .ref (u 13), .ref (u 14), .ref (u 15)])), ((u 0), .inl (X.2.1 0, 807, .inl (upd (upd (upd (fun _ => 0) 1 (-1)) 5 2) 9 1))), ((u 1), .inl (X.2.1 0, 807, .inl (fun _ => 0))), ((u 2), .inl (X.2.1 0, 407, .inl (fun _ => 0))), ((u 3), .inl (X.2.1 0, 4884, .inl (fun _ => 0))), ((u 4), .inl (X.2.1 0, 400, .inl (fun _ => 0))), ((u 5), .inl (X.2.1 0, 6, .inl (fun _ => 0))), ((u 6), .inl (X.2.1 0, 90, .inl (fun _ => 0))), ((u 7), .inl (X.2.1 0, 10, .inl (fun _ => 0))), ((u 8), .inl (X.2.1 0, 10, .inl (fun _ => 0))), ((u 9), .inl (X.2.1 0, 9, .inl (fun _ => 0))), ((u 10), .inl (X.2.1 0, 10, .inl (fun _ => 0))), ((u 11), .inl (X.2.1 0, 10, .inl (fun _ => 0))), ((u 12), .inl (X.2.1 0, 9, .inl (fun _ => 0))), ((u 13), .inl (X.2.1 0, 19, .inl (fun _ => 0))), ((u 14), .inl (X.2.1 0, 19, .inl (fun _ => 0))), ((u 15), .inl (X.2.1 4, 64, .inl (fun _ => 0)))]
def rm_X10_init : Room := rmx 1 12 16 7561
set_option maxRecDepth 100000 in
set_option maxHeartbeats 8000000 in
theorem KC_X10_init {X : Cx} {l : Launch} : KC X l yX10_init (wz yX10_init cX10_init 1 none) rm_X10_init 16 7561 9 [.int 0, .null, .null, .int 0, .null, .null, .int 0, .null, .int 0, .int 0, .int 0, .int 0, .int 0, .int 0, .null, .int 0, .int 0, .int 0, .null, .null, .null, .null, .null, .null, .null, .null, .null, .null] (Wc_X10_init X) := by
  refine KC_of (own := RX10) (by decide +kernel) rfl (Nat.le_of_ble_eq_true rfl) rfl (fun A h p e s m args below meth c S hI hr hlk => ?_)
  refine y_aload_n S dX10_init_0 rfl 0 rfl ?_
  refine y_objInit S oi_RX10_1 oi_a oi_b dX10_init_1 (Nat.le_of_ble_eq_true rfl) (Nat.le_of_ble_eq_true rfl) ?_
  refine y_aload_n S dX10_init_4 rfl 0 rfl ?_
  refine y_sipush (v := 807) S dX10_init_5 (by decide) ?_
  refine y_newa S 0 ac_int rfl rfl (N' := 807) (xa := .inl (fun _ => 0)) (fun cA => rfl) (by decide) (by decide) (by decide) (Nat.le_of_ble_eq_true rfl) (Nat.le_of_ble_eq_true rfl) dX10_init_8 (fun q0 => ?_)
  refine y_eq (ws' := [(h, .inr (9, [.int 0, .null, .null, .int 0, .null, .null, .int 0, .null, .int 0, .int 0, .int 0, .int 0, .int 0, .int 0, .null, .int 0, .int 0, .int 0, .null, .null, .null, .null, .null, .null, .null, .null, .null, .null])), (q0, .inl (X.2.1 0, 807, .inl (fun _ => 0)))]) rfl ?_
  refine y_putF S hI fp_RX10_7 rfl rfl (by decide) dX10_init_10 ?_
  refine y_eq (ws' := [(h, .inr (9, [.int 0, .ref q0, .null, .int 0, .null, .null, .int 0, .null, .int 0, .int 0, .int 0, .int 0, .int 0, .int 0, .null, .int 0, .int 0, .int 0, .null, .null, .null, .null, .null, .null, .null, .null, .null, .null])), (q0, .inl (X.2.1 0, 807, .inl (fun _ => 0)))]) rfl ?_
  refine y_aload_n S dX10_init_13 rfl 0 rfl ?_
  refine y_sipush (v := 807) S dX10_init_14 (by decide) ?_
  refine y_newa S 0 ac_int rfl rfl (N' := 807) (xa := .inl (fun _ => 0)) (fun cA => rfl) (by decide) (by decide) (by decide) (Nat.le_of_ble_eq_true rfl) (Nat.le_of_ble_eq_true rfl) dX10_init_17 (fun q1 => ?_)
  refine y_eq (ws' := [(h, .inr (9, [.int 0, .ref q0, .null, .int 0, .null, .null, .int 0, .null, .int 0, .int 0, .int 0, .int 0, .int 0, .int 0, .null, .int 0, .int 0, .int 0, .null, .null, .null, .null, .null, .null, .null, .null, .null, .null])), (q0, .inl (X.2.1 0, 807, .inl (fun _ => 0))), (q1, .inl (X.2.1 0, 807, .inl (fun _ => 0)))]) rfl ?_
  refine y_putF S hI fp_RX10_13 rfl rfl (by decide) dX10_init_19 ?_
  refine y_eq (ws' := [(h, .inr (9, [.int 0, .ref q0, .ref q1, .int 0, .null, .null, .int 0, .null, .int 0, .int 0, .int 0, .int 0, .int 0, .int 0, .null, .int 0, .int 0, .int 0, .null, .null, .null, .null, .null, .null, .null, .null, .null, .null])), (q0, .inl (X.2.1 0, 807, .inl (fun _ => 0))), (q1, .inl (X.2.1 0, 807, .inl (fun _ => 0)))]) rfl ?_
  refine y_aload_n S dX10_init_22 rfl 0 rfl ?_
  refine y_sipush (v := 407) S dX10_init_23 (by decide) ?_
  refine y_newa S 0 ac_int rfl rfl (N' := 407) (xa := .inl (fun _ => 0)) (fun cA => rfl) (by decide) (by decide) (by decide) (Nat.le_of_ble_eq_true rfl) (Nat.le_of_ble_eq_true rfl) dX10_init_26 (fun q2 => ?_)
  refine y_eq (ws' := [(h, .inr (9, [.int 0, .ref q0, .ref q1, .int 0, .null, .null, .int 0, .null, .int 0, .int 0, .int 0, .int 0, .int 0, .int 0, .null, .int 0, .int 0, .int 0, .null, .null, .null, .null, .null, .null, .null, .null, .null, .null])), (q0, .inl (X.2.1 0, 807, .inl (fun _ => 0))), (q1, .inl (X.2.1 0, 807, .inl (fun _ => 0))), (q2, .inl (X.2.1 0, 407, .inl (fun _ => 0)))]) rfl ?_
  refine y_putF S hI fp_RX10_16 rfl rfl (by decide) dX10_init_28 ?_
  refine y_eq (ws' := [(h, .inr (9, [.int 0, .ref q0, .ref q1, .int 0, .ref q2, .null, .int 0, .null, .int 0, .int 0, .int 0, .int 0, .int 0, .int 0, .null, .int 0, .int 0, .int 0, .null, .null, .null, .null, .null, .null, .null, .null, .null, .null])), (q0, .inl (X.2.1 0, 807, .inl (fun _ => 0))), (q1, .inl (X.2.1 0, 807, .inl (fun _ => 0))), (q2, .inl (X.2.1 0, 407, .inl (fun _ => 0)))]) rfl ?_
  refine y_aload_n S dX10_init_31 rfl 0 rfl ?_
  refine y_sipush (v := 4884) S dX10_init_32 (by decide) ?_
  refine y_newa S 0 ac_int rfl rfl (N' := 4884) (xa := .inl (fun _ => 0)) (fun cA => rfl) (by decide) (by decide) (by decide) (Nat.le_of_ble_eq_true rfl) (Nat.le_of_ble_eq_true rfl) dX10_init_35 (fun q3 => ?_)
  refine y_eq (ws' := [(h, .inr (9, [.int 0, .ref q0, .ref q1, .int 0, .ref q2, .null, .int 0, .null, .int 0, .int 0, .int 0, .int 0, .int 0, .int 0, .null, .int 0, .int 0, .int 0, .null, .null, .null, .null, .null, .null, .null, .null, .null, .null])), (q0, .inl (X.2.1 0, 807, .inl (fun _ => 0))), (q1, .inl (X.2.1 0, 807, .inl (fun _ => 0))), (q2, .inl (X.2.1 0, 407, .inl (fun _ => 0))), (q3, .inl (X.2.1 0, 4884, .inl (fun _ => 0)))]) rfl ?_
  refine y_putF S hI fp_RX10_19 rfl rfl (by decide) dX10_init_37 ?_
  refine y_eq (ws' := [(h, .inr (9, [.int 0, .ref q0, .ref q1, .int 0, .ref q2, .ref q3, .int 0, .null, .int 0, .int 0, .int 0, .int 0, .int 0, .int 0, .null, .int 0, .int 0, .int 0, .null, .null, .null, .null, .null, .null, .null, .null, .null, .null])), (q0, .inl (X.2.1 0, 807, .inl (fun _ => 0))), (q1, .inl (X.2.1 0, 807, .inl (fun _ => 0))), (q2, .inl (X.2.1 0, 407, .inl (fun _ => 0))), (q3, .inl (X.2.1 0, 4884, .inl (fun _ => 0)))]) rfl ?_
  refine y_aload_n S dX10_init_40 rfl 0 rfl ?_
  refine y_sipush (v := 400) S dX10_init_41 (by decide) ?_
  refine y_newa S 0 ac_int rfl rfl (N' := 400) (xa := .inl (fun _ => 0)) (fun cA => rfl) (by decide) (by decide) (by decide) (Nat.le_of_ble_eq_true rfl) (Nat.le_of_ble_eq_true rfl) dX10_init_44 (fun q4 => ?_)
  refine y_eq (ws' := [(h, .inr (9, [.int 0, .ref q0, .ref q1, .int 0, .ref q2, .ref q3, .int 0, .null, .int 0, .int 0, .int 0, .int 0, .int 0, .int 0, .null, .int 0, .int 0, .int 0, .null, .null, .null, .null, .null, .null, .null, .null, .null, .null])), (q0, .inl (X.2.1 0, 807, .inl (fun _ => 0))), (q1, .inl (X.2.1 0, 807, .inl (fun _ => 0))), (q2, .inl (X.2.1 0, 407, .inl (fun _ => 0))), (q3, .inl (X.2.1 0, 4884, .inl (fun _ => 0))), (q4, .inl (X.2.1 0, 400, .inl (fun _ => 0)))]) rfl ?_
  refine y_putF S hI fp_RX10_22 rfl rfl (by decide) dX10_init_46 ?_
  refine y_eq (ws' := [(h, .inr (9, [.int 0, .ref q0, .ref q1, .int 0, .ref q2, .ref q3, .int 0, .ref q4, .int 0, .int 0, .int 0, .int 0, .int 0, .int 0, .null, .int 0, .int 0, .int 0, .null, .null, .null, .null, .null, .null, .null, .null, .null, .null])), (q0, .inl (X.2.1 0, 807, .inl (fun _ => 0))), (q1, .inl (X.2.1 0, 807, .inl (fun _ => 0))), (q2, .inl (X.2.1 0, 407, .inl (fun _ => 0))), (q3, .inl (X.2.1 0, 4884, .inl (fun _ => 0))), (q4, .inl (X.2.1 0, 400, .inl (fun _ => 0)))]) rfl ?_
  refine y_aload_n S dX10_init_49 rfl 0 rfl ?_
  refine y_iconst (v := (-1)) S dX10_init_50 (by decide) ?_
  refine y_putV S fp_RX10_25 rfl rfl (by decide) dX10_init_51 ?_
  refine y_eq (ws' := [(h, .inr (9, [.int 0, .ref q0, .ref q1, .int 0, .ref q2, .ref q3, .int 0, .ref q4, .int 0, .int 0, .int 0, .int 0, .int (-1), .int 0, .null, .int 0, .int 0, .int 0, .null, .null, .null, .null, .null, .null, .null, .null, .null, .null])), (q0, .inl (X.2.1 0, 807, .inl (fun _ => 0))), (q1, .inl (X.2.1 0, 807, .inl (fun _ => 0))), (q2, .inl (X.2.1 0, 407, .inl (fun _ => 0))), (q3, .inl (X.2.1 0, 4884, .inl (fun _ => 0))), (q4, .inl (X.2.1 0, 400, .inl (fun _ => 0)))]) rfl ?_
  refine y_aload_n S dX10_init_54 rfl 0 rfl ?_
  refine y_bipush (v := 6) S dX10_init_55 (by decide) ?_
  refine y_newa S 0 ac_int rfl rfl (N' := 6) (xa := .inl (fun _ => 0)) (fun cA => rfl) (by decide) (by decide) (by decide) (Nat.le_of_ble_eq_true rfl) (Nat.le_of_ble_eq_true rfl) dX10_init_57 (fun q5 => ?_)
  refine y_eq (ws' := [(h, .inr (9, [.int 0, .ref q0, .ref q1, .int 0, .ref q2, .ref q3, .int 0, .ref q4, .int 0, .int 0, .int 0, .int 0, .int (-1), .int 0, .null, .int 0, .int 0, .int 0, .null, .null, .null, .null, .null, .null, .null, .null, .null, .null])), (q0, .inl (X.2.1 0, 807, .inl (fun _ => 0))), (q1, .inl (X.2.1 0, 807, .inl (fun _ => 0))), (q2, .inl (X.2.1 0, 407, .inl (fun _ => 0))), (q3, .inl (X.2.1 0, 4884, .inl (fun _ => 0))), (q4, .inl (X.2.1 0, 400, .inl (fun _ => 0))), (q5, .inl (X.2.1 0, 6, .inl (fun _ => 0)))]) rfl ?_
  refine y_putF S hI fp_RX10_29 rfl rfl (by decide) dX10_init_59 ?_
  refine y_eq (ws' := [(h, .inr (9, [.int 0, .ref q0, .ref q1, .int 0, .ref q2, .ref q3, .int 0, .ref q4, .int 0, .int 0, .int 0, .int 0, .int (-1), .int 0, .ref q5, .int 0, .int 0, .int 0, .null, .null, .null, .null, .null, .null, .null, .null, .null, .null])), (q0, .inl (X.2.1 0, 807, .inl (fun _ => 0))), (q1, .inl (X.2.1 0, 807, .inl (fun _ => 0))), (q2, .inl (X.2.1 0, 407, .inl (fun _ => 0))), (q3, .inl (X.2.1 0, 4884, .inl (fun _ => 0))), (q4, .inl (X.2.1 0, 400, .inl (fun _ => 0))), (q5, .inl (X.2.1 0, 6, .inl (fun _ => 0)))]) rfl ?_
  refine y_aload_n S dX10_init_62 rfl 0 rfl ?_
  refine y_bipush (v := 90) S dX10_init_63 (by decide) ?_
  refine y_newa S 0 ac_int rfl rfl (N' := 90) (xa := .inl (fun _ => 0)) (fun cA => rfl) (by decide) (by decide) (by decide) (Nat.le_of_ble_eq_true rfl) (Nat.le_of_ble_eq_true rfl) dX10_init_65 (fun q6 => ?_)
  refine y_eq (ws' := [(h, .inr (9, [.int 0, .ref q0, .ref q1, .int 0, .ref q2, .ref q3, .int 0, .ref q4, .int 0, .int 0, .int 0, .int 0, .int (-1), .int 0, .ref q5, .int 0, .int 0, .int 0, .null, .null, .null, .null, .null, .null, .null, .null, .null, .null])), (q0, .inl (X.2.1 0, 807, .inl (fun _ => 0))), (q1, .inl (X.2.1 0, 807, .inl (fun _ => 0))), (q2, .inl (X.2.1 0, 407, .inl (fun _ => 0))), (q3, .inl (X.2.1 0, 4884, .inl (fun _ => 0))), (q4, .inl (X.2.1 0, 400, .inl (fun _ => 0))), (q5, .inl (X.2.1 0, 6, .inl (fun _ => 0))), (q6, .inl (X.2.1 0, 90, .inl (fun _ => 0)))]) rfl ?_
  refine y_putF S hI fp_RX10_32 rfl rfl (by decide) dX10_init_67 ?_
  refine y_eq (ws' := [(h, .inr (9, [.int 0, .ref q0, .ref q1, .int 0, .ref q2, .ref q3, .int 0, .ref q4, .int 0, .int 0, .int 0, .int 0, .int (-1), .int 0, .ref q5, .int 0, .int 0, .int 0, .ref q6, .null, .null, .null, .null, .null, .null, .null, .null, .null])), (q0, .inl (X.2.1 0, 807, .inl (fun _ => 0))), (q1, .inl (X.2.1 0, 807, .inl (fun _ => 0))), (q2, .inl (X.2.1 0, 407, .inl (fun _ => 0))), (q3, .inl (X.2.1 0, 4884, .inl (fun _ => 0))), (q4, .inl (X.2.1 0, 400, .inl (fun _ => 0))), (q5, .inl (X.2.1 0, 6, .inl (fun _ => 0))), (q6, .inl (X.2.1 0, 90, .inl (fun _ => 0)))]) rfl ?_
  refine y_aload_n S dX10_init_70 rfl 0 rfl ?_
  refine y_bipush (v := 10) S dX10_init_71 (by decide) ?_
  refine y_newa S 0 ac_int rfl rfl (N' := 10) (xa := .inl (fun _ => 0)) (fun cA => rfl) (by decide) (by decide) (by decide) (Nat.le_of_ble_eq_true rfl) (Nat.le_of_ble_eq_true rfl) dX10_init_73 (fun q7 => ?_)
  refine y_eq (ws' := [(h, .inr (9, [.int 0, .ref q0, .ref q1, .int 0, .ref q2, .ref q3, .int 0, .ref q4, .int 0, .int 0, .int 0, .int 0, .int (-1), .int 0, .ref q5, .int 0, .int 0, .int 0, .ref q6, .null, .null, .null, .null, .null, .null, .null, .null, .null])), (q0, .inl (X.2.1 0, 807, .inl (fun _ => 0))), (q1, .inl (X.2.1 0, 807, .inl (fun _ => 0))), (q2, .inl (X.2.1 0, 407, .inl (fun _ => 0))), (q3, .inl (X.2.1 0, 4884, .inl (fun _ => 0))), (q4, .inl (X.2.1 0, 400, .inl (fun _ => 0))), (q5, .inl (X.2.1 0, 6, .inl (fun _ => 0))), (q6, .inl (X.2.1 0, 90, .inl (fun _ => 0))), (q7, .inl (X.2.1 0, 10, .inl (fun _ => 0)))]) rfl ?_
  refine y_putF S hI fp_RX10_35 rfl rfl (by decide) dX10_init_75 ?_
  refine y_eq (ws' := [(h, .inr (9, [.int 0, .ref q0, .ref q1, .int 0, .ref q2, .ref q3, .int 0, .ref q4, .int 0, .int 0, .int 0, .int 0, .int (-1), .int 0, .ref q5, .int 0, .int 0, .int 0, .ref q6, .ref q7, .null, .null, .null, .null, .null, .null, .null, .null])), (q0, .inl (X.2.1 0, 807, .inl (fun _ => 0))), (q1, .inl (X.2.1 0, 807, .inl (fun _ => 0))), (q2, .inl (X.2.1 0, 407, .inl (fun _ => 0))), (q3, .inl (X.2.1 0, 4884, .inl (fun _ => 0))), (q4, .inl (X.2.1 0, 400, .inl (fun _ => 0))), (q5, .inl (X.2.1 0, 6, .inl (fun _ => 0))), (q6, .inl (X.2.1 0, 90, .inl (fun _ => 0))), (q7, .inl (X.2.1 0, 10, .inl (fun _ => 0)))]) rfl ?_
  refine y_aload_n S dX10_init_78 rfl 0 rfl ?_
  refine y_bipush (v := 10) S dX10_init_79 (by decide) ?_
  refine y_newa S 0 ac_int rfl rfl (N' := 10) (xa := .inl (fun _ => 0)) (fun cA => rfl) (by decide) (by decide) (by decide) (Nat.le_of_ble_eq_true rfl) (Nat.le_of_ble_eq_true rfl) dX10_init_81 (fun q8 => ?_)
  refine y_eq (ws' := [(h, .inr (9, [.int 0, .ref q0, .ref q1, .int 0, .ref q2, .ref q3, .int 0, .ref q4, .int 0, .int 0, .int 0, .int 0, .int (-1), .int 0, .ref q5, .int 0, .int 0, .int 0, .ref q6, .ref q7, .null, .null, .null, .null, .null, .null, .null, .null])), (q0, .inl (X.2.1 0, 807, .inl (fun _ => 0))), (q1, .inl (X.2.1 0, 807, .inl (fun _ => 0))), (q2, .inl (X.2.1 0, 407, .inl (fun _ => 0))), (q3, .inl (X.2.1 0, 4884, .inl (fun _ => 0))), (q4, .inl (X.2.1 0, 400, .inl (fun _ => 0))), (q5, .inl (X.2.1 0, 6, .inl (fun _ => 0))), (q6, .inl (X.2.1 0, 90, .inl (fun _ => 0))), (q7, .inl (X.2.1 0, 10, .inl (fun _ => 0))), (q8, .inl (X.2.1 0, 10, .inl (fun _ => 0)))]) rfl ?_
  refine y_putF S hI fp_RX10_38 rfl rfl (by decide) dX10_init_83 ?_
  refine y_eq (ws' := [(h, .inr (9, [.int 0, .ref q0, .ref q1, .int 0, .ref q2, .ref q3, .int 0, .ref q4, .int 0, .int 0, .int 0, .int 0, .int (-1), .int 0, .ref q5, .int 0, .int 0, .int 0, .ref q6, .ref q7, .ref q8, .null, .null, .null, .null, .null, .null, .null])), (q0, .inl (X.2.1 0, 807, .inl (fun _ => 0))), (q1, .inl (X.2.1 0, 807, .inl (fun _ => 0))), (q2, .inl (X.2.1 0, 407, .inl (fun _ => 0))), (q3, .inl (X.2.1 0, 4884, .inl (fun _ => 0))), (q4, .inl (X.2.1 0, 400, .inl (fun _ => 0))), (q5, .inl (X.2.1 0, 6, .inl (fun _ => 0))), (q6, .inl (X.2.1 0, 90, .inl (fun _ => 0))), (q7, .inl (X.2.1 0, 10, .inl (fun _ => 0))), (q8, .inl (X.2.1 0, 10, .inl (fun _ => 0)))]) rfl ?_
  refine y_aload_n S dX10_init_86 rfl 0 rfl ?_
  refine y_bipush (v := 9) S dX10_init_87 (by decide) ?_
  refine y_newa S 0 ac_int rfl rfl (N' := 9) (xa := .inl (fun _ => 0)) (fun cA => rfl) (by decide) (by decide) (by decide) (Nat.le_of_ble_eq_true rfl) (Nat.le_of_ble_eq_true rfl) dX10_init_89 (fun q9 => ?_)
  refine y_eq (ws' := [(h, .inr (9, [.int 0, .ref q0, .ref q1, .int 0, .ref q2, .ref q3, .int 0, .ref q4, .int 0, .int 0, .int 0, .int 0, .int (-1), .int 0, .ref q5, .int 0, .int 0, .int 0, .ref q6, .ref q7, .ref q8, .null, .null, .null, .null, .null, .null, .null])), (q0, .inl (X.2.1 0, 807, .inl (fun _ => 0))), (q1, .inl (X.2.1 0, 807, .inl (fun _ => 0))), (q2, .inl (X.2.1 0, 407, .inl (fun _ => 0))), (q3, .inl (X.2.1 0, 4884, .inl (fun _ => 0))), (q4, .inl (X.2.1 0, 400, .inl (fun _ => 0))), (q5, .inl (X.2.1 0, 6, .inl (fun _ => 0))), (q6, .inl (X.2.1 0, 90, .inl (fun _ => 0))), (q7, .inl (X.2.1 0, 10, .inl (fun _ => 0))), (q8, .inl (X.2.1 0, 10, .inl (fun _ => 0))), (q9, .inl (X.2.1 0, 9, .inl (fun _ => 0)))]) rfl ?_
  refine y_putF S hI fp_RX10_41 rfl rfl (by decide) dX10_init_91 ?_
  refine y_eq (ws' := [(h, .inr (9, [.int 0, .ref q0, .ref q1, .int 0, .ref q2, .ref q3, .int 0, .ref q4, .int 0, .int 0, .int 0, .int 0, .int (-1), .int 0, .ref q5, .int 0, .int 0, .int 0, .ref q6, .ref q7, .ref q8, .ref q9, .null, .null, .null, .null, .null, .null])), (q0, .inl (X.2.1 0, 807, .inl (fun _ => 0))), (q1, .inl (X.2.1 0, 807, .inl (fun _ => 0))), (q2, .inl (X.2.1 0, 407, .inl (fun _ => 0))), (q3, .inl (X.2.1 0, 4884, .inl (fun _ => 0))), (q4, .inl (X.2.1 0, 400, .inl (fun _ => 0))), (q5, .inl (X.2.1 0, 6, .inl (fun _ => 0))), (q6, .inl (X.2.1 0, 90, .inl (fun _ => 0))), (q7, .inl (X.2.1 0, 10, .inl (fun _ => 0))), (q8, .inl (X.2.1 0, 10, .inl (fun _ => 0))), (q9, .inl (X.2.1 0, 9, .inl (fun _ => 0)))]) rfl ?_
  refine y_aload_n S dX10_init_94 rfl 0 rfl ?_
  refine y_bipush (v := 10) S dX10_init_95 (by decide) ?_
  refine y_newa S 0 ac_int rfl rfl (N' := 10) (xa := .inl (fun _ => 0)) (fun cA => rfl) (by decide) (by decide) (by decide) (Nat.le_of_ble_eq_true rfl) (Nat.le_of_ble_eq_true rfl) dX10_init_97 (fun q10 => ?_)
  refine y_eq (ws' := [(h, .inr (9, [.int 0, .ref q0, .ref q1, .int 0, .ref q2, .ref q3, .int 0, .ref q4, .int 0, .int 0, .int 0, .int 0, .int (-1), .int 0, .ref q5, .int 0, .int 0, .int 0, .ref q6, .ref q7, .ref q8, .ref q9, .null, .null, .null, .null, .null, .null])), (q0, .inl (X.2.1 0, 807, .inl (fun _ => 0))), (q1, .inl (X.2.1 0, 807, .inl (fun _ => 0))), (q2, .inl (X.2.1 0, 407, .inl (fun _ => 0))), (q3, .inl (X.2.1 0, 4884, .inl (fun _ => 0))), (q4, .inl (X.2.1 0, 400, .inl (fun _ => 0))), (q5, .inl (X.2.1 0, 6, .inl (fun _ => 0))), (q6, .inl (X.2.1 0, 90, .inl (fun _ => 0))), (q7, .inl (X.2.1 0, 10, .inl (fun _ => 0))), (q8, .inl (X.2.1 0, 10, .inl (fun _ => 0))), (q9, .inl (X.2.1 0, 9, .inl (fun _ => 0))), (q10, .inl (X.2.1 0, 10, .inl (fun _ => 0)))]) rfl ?_
  refine y_putF S hI fp_RX10_44 rfl rfl (by decide) dX10_init_99 ?_
  refine y_eq (ws' := [(h, .inr (9, [.int 0, .ref q0, .ref q1, .int 0, .ref q2, .ref q3, .int 0, .ref q4, .int 0, .int 0, .int 0, .int 0, .int (-1), .int 0, .ref q5, .int 0, .int 0, .int 0, .ref q6, .ref q7, .ref q8, .ref q9, .ref q10, .null, .null, .null, .null, .null])), (q0, .inl (X.2.1 0, 807, .inl (fun _ => 0))), (q1, .inl (X.2.1 0, 807, .inl (fun _ => 0))), (q2, .inl (X.2.1 0, 407, .inl (fun _ => 0))), (q3, .inl (X.2.1 0, 4884, .inl (fun _ => 0))), (q4, .inl (X.2.1 0, 400, .inl (fun _ => 0))), (q5, .inl (X.2.1 0, 6, .inl (fun _ => 0))), (q6, .inl (X.2.1 0, 90, .inl (fun _ => 0))), (q7, .inl (X.2.1 0, 10, .inl (fun _ => 0))), (q8, .inl (X.2.1 0, 10, .inl (fun _ => 0))), (q9, .inl (X.2.1 0, 9, .inl (fun _ => 0))), (q10, .inl (X.2.1 0, 10, .inl (fun _ => 0)))]) rfl ?_
  refine y_aload_n S dX10_init_102 rfl 0 rfl ?_
  refine y_bipush (v := 10) S dX10_init_103 (by decide) ?_
  refine y_newa S 0 ac_int rfl rfl (N' := 10) (xa := .inl (fun _ => 0)) (fun cA => rfl) (by decide) (by decide) (by decide) (Nat.le_of_ble_eq_true rfl) (Nat.le_of_ble_eq_true rfl) dX10_init_105 (fun q11 => ?_)
  refine y_eq (ws' := [(h, .inr (9, [.int 0, .ref q0, .ref q1, .int 0, .ref q2, .ref q3, .int 0, .ref q4, .int 0, .int 0, .int 0, .int 0, .int (-1), .int 0, .ref q5, .int 0, .int 0, .int 0, .ref q6, .ref q7, .ref q8, .ref q9, .ref q10, .null, .null, .null, .null, .null])), (q0, .inl (X.2.1 0, 807, .inl (fun _ => 0))), (q1, .inl (X.2.1 0, 807, .inl (fun _ => 0))), (q2, .inl (X.2.1 0, 407, .inl (fun _ => 0))), (q3, .inl (X.2.1 0, 4884, .inl (fun _ => 0))), (q4, .inl (X.2.1 0, 400, .inl (fun _ => 0))), (q5, .inl (X.2.1 0, 6, .inl (fun _ => 0))), (q6, .inl (X.2.1 0, 90, .inl (fun _ => 0))), (q7, .inl (X.2.1 0, 10, .inl (fun _ => 0))), (q8, .inl (X.2.1 0, 10, .inl (fun _ => 0))), (q9, .inl (X.2.1 0, 9, .inl (fun _ => 0))), (q10, .inl (X.2.1 0, 10, .inl (fun _ => 0))), (q11, .inl (X.2.1 0, 10, .inl (fun _ => 0)))]) rfl ?_
  refine y_putF S hI fp_RX10_47 rfl rfl (by decide) dX10_init_107 ?_
  refine y_eq (ws' := [(h, .inr (9, [.int 0, .ref q0, .ref q1, .int 0, .ref q2, .ref q3, .int 0, .ref q4, .int 0, .int 0, .int 0, .int 0, .int (-1), .int 0, .ref q5, .int 0, .int 0, .int 0, .ref q6, .ref q7, .ref q8, .ref q9, .ref q10, .ref q11, .null, .null, .null, .null])), (q0, .inl (X.2.1 0, 807, .inl (fun _ => 0))), (q1, .inl (X.2.1 0, 807, .inl (fun _ => 0))), (q2, .inl (X.2.1 0, 407, .inl (fun _ => 0))), (q3, .inl (X.2.1 0, 4884, .inl (fun _ => 0))), (q4, .inl (X.2.1 0, 400, .inl (fun _ => 0))), (q5, .inl (X.2.1 0, 6, .inl (fun _ => 0))), (q6, .inl (X.2.1 0, 90, .inl (fun _ => 0))), (q7, .inl (X.2.1 0, 10, .inl (fun _ => 0))), (q8, .inl (X.2.1 0, 10, .inl (fun _ => 0))), (q9, .inl (X.2.1 0, 9, .inl (fun _ => 0))), (q10, .inl (X.2.1 0, 10, .inl (fun _ => 0))), (q11, .inl (X.2.1 0, 10, .inl (fun _ => 0)))]) rfl ?_
  refine y_aload_n S dX10_init_110 rfl 0 rfl ?_
  refine y_bipush (v := 9) S dX10_init_111 (by decide) ?_
  refine y_newa S 0 ac_int rfl rfl (N' := 9) (xa := .inl (fun _ => 0)) (fun cA => rfl) (by decide) (by decide) (by decide) (Nat.le_of_ble_eq_true rfl) (Nat.le_of_ble_eq_true rfl) dX10_init_113 (fun q12 => ?_)
  refine y_eq (ws' := [(h, .inr (9, [.int 0, .ref q0, .ref q1, .int 0, .ref q2, .ref q3, .int 0, .ref q4, .int 0, .int 0, .int 0, .int 0, .int (-1), .int 0, .ref q5, .int 0, .int 0, .int 0, .ref q6, .ref q7, .ref q8, .ref q9, .ref q10, .ref q11, .null, .null, .null, .null])), (q0, .inl (X.2.1 0, 807, .inl (fun _ => 0))), (q1, .inl (X.2.1 0, 807, .inl (fun _ => 0))), (q2, .inl (X.2.1 0, 407, .inl (fun _ => 0))), (q3, .inl (X.2.1 0, 4884, .inl (fun _ => 0))), (q4, .inl (X.2.1 0, 400, .inl (fun _ => 0))), (q5, .inl (X.2.1 0, 6, .inl (fun _ => 0))), (q6, .inl (X.2.1 0, 90, .inl (fun _ => 0))), (q7, .inl (X.2.1 0, 10, .inl (fun _ => 0))), (q8, .inl (X.2.1 0, 10, .inl (fun _ => 0))), (q9, .inl (X.2.1 0, 9, .inl (fun _ => 0))), (q10, .inl (X.2.1 0, 10, .inl (fun _ => 0))), (q11, .inl (X.2.1 0, 10, .inl (fun _ => 0))), (q12, .inl (X.2.1 0, 9, .inl (fun _ => 0)))]) rfl ?_
  refine y_putF S hI fp_RX10_50 rfl rfl (by decide) dX10_init_115 ?_
  refine y_eq (ws' := [(h, .inr (9, [.int 0, .ref q0, .ref q1, .int 0, .ref q2, .ref q3, .int 0, .ref q4, .int 0, .int 0, .int 0, .int 0, .int (-1), .int 0, .ref q5, .int 0, .int 0, .int 0, .ref q6, .ref q7, .ref q8, .ref q9, .ref q10, .ref q11, .ref q12, .null, .null, .null])), (q0, .inl (X.2.1 0, 807, .inl (fun _ => 0))), (q1, .inl (X.2.1 0, 807, .inl (fun _ => 0))), (q2, .inl (X.2.1 0, 407, .inl (fun _ => 0))), (q3, .inl (X.2.1 0, 4884, .inl (fun _ => 0))), (q4, .inl (X.2.1 0, 400, .inl (fun _ => 0))), (q5, .inl (X.2.1 0, 6, .inl (fun _ => 0))), (q6, .inl (X.2.1 0, 90, .inl (fun _ => 0))), (q7, .inl (X.2.1 0, 10, .inl (fun _ => 0))), (q8, .inl (X.2.1 0, 10, .inl (fun _ => 0))), (q9, .inl (X.2.1 0, 9, .inl (fun _ => 0))), (q10, .inl (X.2.1 0, 10, .inl (fun _ => 0))), (q11, .inl (X.2.1 0, 10, .inl (fun _ => 0))), (q12, .inl (X.2.1 0, 9, .inl (fun _ => 0)))]) rfl ?_
  refine y_aload_n S dX10_init_118 rfl 0 rfl ?_
  refine y_bipush (v := 19) S dX10_init_119 (by decide) ?_
  refine y_newa S 0 ac_int rfl rfl (N' := 19) (xa := .inl (fun _ => 0)) (fun cA => rfl) (by decide) (by decide) (by decide) (Nat.le_of_ble_eq_true rfl) (Nat.le_of_ble_eq_true rfl) dX10_init_121 (fun q13 => ?_)
  refine y_eq (ws' := [(h, .inr (9, [.int 0, .ref q0, .ref q1, .int 0, .ref q2, .ref q3, .int 0, .ref q4, .int 0, .int 0, .int 0, .int 0, .int (-1), .int 0, .ref q5, .int 0, .int 0, .int 0, .ref q6, .ref q7, .ref q8, .ref q9, .ref q10, .ref q11, .ref q12, .null, .null, .null])), (q0, .inl (X.2.1 0, 807, .inl (fun _ => 0))), (q1, .inl (X.2.1 0, 807, .inl (fun _ => 0))), (q2, .inl (X.2.1 0, 407, .inl (fun _ => 0))), (q3, .inl (X.2.1 0, 4884, .inl (fun _ => 0))), (q4, .inl (X.2.1 0, 400, .inl (fun _ => 0))), (q5, .inl (X.2.1 0, 6, .inl (fun _ => 0))), (q6, .inl (X.2.1 0, 90, .inl (fun _ => 0))), (q7, .inl (X.2.1 0, 10, .inl (fun _ => 0))), (q8, .inl (X.2.1 0, 10, .inl (fun _ => 0))), (q9, .inl (X.2.1 0, 9, .inl (fun _ => 0))), (q10, .inl (X.2.1 0, 10, .inl (fun _ => 0))), (q11, .inl (X.2.1 0, 10, .inl (fun _ => 0))), (q12, .inl (X.2.1 0, 9, .inl (fun _ => 0))), (q13, .inl (X.2.1 0, 19, .inl (fun _ => 0)))]) rfl ?_
  refine y_putF S hI fp_RX10_53 rfl rfl (by decide) dX10_init_123 ?_
  refine y_eq (ws' := [(h, .inr (9, [.int 0, .ref q0, .ref q1, .int 0, .ref q2, .ref q3, .int 0, .ref q4, .int 0, .int 0, .int 0, .int 0, .int (-1), .int 0, .ref q5, .int 0, .int 0, .int 0, .ref q6, .ref q7, .ref q8, .ref q9, .ref q10, .ref q11, .ref q12, .ref q13, .null, .null])), (q0, .inl (X.2.1 0, 807, .inl (fun _ => 0))), (q1, .inl (X.2.1 0, 807, .inl (fun _ => 0))), (q2, .inl (X.2.1 0, 407, .inl (fun _ => 0))), (q3, .inl (X.2.1 0, 4884, .inl (fun _ => 0))), (q4, .inl (X.2.1 0, 400, .inl (fun _ => 0))), (q5, .inl (X.2.1 0, 6, .inl (fun _ => 0))), (q6, .inl (X.2.1 0, 90, .inl (fun _ => 0))), (q7, .inl (X.2.1 0, 10, .inl (fun _ => 0))), (q8, .inl (X.2.1 0, 10, .inl (fun _ => 0))), (q9, .inl (X.2.1 0, 9, .inl (fun _ => 0))), (q10, .inl (X.2.1 0, 10, .inl (fun _ => 0))), (q11, .inl (X.2.1 0, 10, .inl (fun _ => 0))), (q12, .inl (X.2.1 0, 9, .inl (fun _ => 0))), (q13, .inl (X.2.1 0, 19, .inl (fun _ => 0)))]) rfl ?_
  refine y_aload_n S dX10_init_126 rfl 0 rfl ?_
  refine y_bipush (v := 19) S dX10_init_127 (by decide) ?_
  refine y_newa S 0 ac_int rfl rfl (N' := 19) (xa := .inl (fun _ => 0)) (fun cA => rfl) (by decide) (by decide) (by decide) (Nat.le_of_ble_eq_true rfl) (Nat.le_of_ble_eq_true rfl) dX10_init_129 (fun q14 => ?_)
  refine y_eq (ws' := [(h, .inr (9, [.int 0, .ref q0, .ref q1, .int 0, .ref q2, .ref q3, .int 0, .ref q4, .int 0, .int 0, .int 0, .int 0, .int (-1), .int 0, .ref q5, .int 0, .int 0, .int 0, .ref q6, .ref q7, .ref q8, .ref q9, .ref q10, .ref q11, .ref q12, .ref q13, .null, .null])), (q0, .inl (X.2.1 0, 807, .inl (fun _ => 0))), (q1, .inl (X.2.1 0, 807, .inl (fun _ => 0))), (q2, .inl (X.2.1 0, 407, .inl (fun _ => 0))), (q3, .inl (X.2.1 0, 4884, .inl (fun _ => 0))), (q4, .inl (X.2.1 0, 400, .inl (fun _ => 0))), (q5, .inl (X.2.1 0, 6, .inl (fun _ => 0))), (q6, .inl (X.2.1 0, 90, .inl (fun _ => 0))), (q7, .inl (X.2.1 0, 10, .inl (fun _ => 0))), (q8, .inl (X.2.1 0, 10, .inl (fun _ => 0))), (q9, .inl (X.2.1 0, 9, .inl (fun _ => 0))), (q10, .inl (X.2.1 0, 10, .inl (fun _ => 0))), (q11, .inl (X.2.1 0, 10, .inl (fun _ => 0))), (q12, .inl (X.2.1 0, 9, .inl (fun _ => 0))), (q13, .inl (X.2.1 0, 19, .inl (fun _ => 0))), (q14, .inl (X.2.1 0, 19, .inl (fun _ => 0)))]) rfl ?_
  refine y_putF S hI fp_RX10_56 rfl rfl (by decide) dX10_init_131 ?_
  refine y_eq (ws' := [(h, .inr (9, [.int 0, .ref q0, .ref q1, .int 0, .ref q2, .ref q3, .int 0, .ref q4, .int 0, .int 0, .int 0, .int 0, .int (-1), .int 0, .ref q5, .int 0, .int 0, .int 0, .ref q6, .ref q7, .ref q8, .ref q9, .ref q10, .ref q11, .ref q12, .ref q13, .ref q14, .null])), (q0, .inl (X.2.1 0, 807, .inl (fun _ => 0))), (q1, .inl (X.2.1 0, 807, .inl (fun _ => 0))), (q2, .inl (X.2.1 0, 407, .inl (fun _ => 0))), (q3, .inl (X.2.1 0, 4884, .inl (fun _ => 0))), (q4, .inl (X.2.1 0, 400, .inl (fun _ => 0))), (q5, .inl (X.2.1 0, 6, .inl (fun _ => 0))), (q6, .inl (X.2.1 0, 90, .inl (fun _ => 0))), (q7, .inl (X.2.1 0, 10, .inl (fun _ => 0))), (q8, .inl (X.2.1 0, 10, .inl (fun _ => 0))), (q9, .inl (X.2.1 0, 9, .inl (fun _ => 0))), (q10, .inl (X.2.1 0, 10, .inl (fun _ => 0))), (q11, .inl (X.2.1 0, 10, .inl (fun _ => 0))), (q12, .inl (X.2.1 0, 9, .inl (fun _ => 0))), (q13, .inl (X.2.1 0, 19, .inl (fun _ => 0))), (q14, .inl (X.2.1 0, 19, .inl (fun _ => 0)))]) rfl ?_
  refine y_aload_n S dX10_init_134 rfl 0 rfl ?_
  refine y_bipush (v := 64) S dX10_init_135 (by decide) ?_
  refine y_newa S 4 ac_bool rfl rfl (N' := 64) (xa := .inl (fun _ => 0)) (fun cA => rfl) (by decide) (by decide) (by decide) (Nat.le_of_ble_eq_true rfl) (Nat.le_of_ble_eq_true rfl) dX10_init_137 (fun q15 => ?_)
  refine y_eq (ws' := [(h, .inr (9, [.int 0, .ref q0, .ref q1, .int 0, .ref q2, .ref q3, .int 0, .ref q4, .int 0, .int 0, .int 0, .int 0, .int (-1), .int 0, .ref q5, .int 0, .int 0, .int 0, .ref q6, .ref q7, .ref q8, .ref q9, .ref q10, .ref q11, .ref q12, .ref q13, .ref q14, .null])), (q0, .inl (X.2.1 0, 807, .inl (fun _ => 0))), (q1, .inl (X.2.1 0, 807, .inl (fun _ => 0))), (q2, .inl (X.2.1 0, 407, .inl (fun _ => 0))), (q3, .inl (X.2.1 0, 4884, .inl (fun _ => 0))), (q4, .inl (X.2.1 0, 400, .inl (fun _ => 0))), (q5, .inl (X.2.1 0, 6, .inl (fun _ => 0))), (q6, .inl (X.2.1 0, 90, .inl (fun _ => 0))), (q7, .inl (X.2.1 0, 10, .inl (fun _ => 0))), (q8, .inl (X.2.1 0, 10, .inl (fun _ => 0))), (q9, .inl (X.2.1 0, 9, .inl (fun _ => 0))), (q10, .inl (X.2.1 0, 10, .inl (fun _ => 0))), (q11, .inl (X.2.1 0, 10, .inl (fun _ => 0))), (q12, .inl (X.2.1 0, 9, .inl (fun _ => 0))), (q13, .inl (X.2.1 0, 19, .inl (fun _ => 0))), (q14, .inl (X.2.1 0, 19, .inl (fun _ => 0))), (q15, .inl (X.2.1 4, 64, .inl (fun _ => 0)))]) rfl ?_
  refine y_putF S hI fp_RX10_59 rfl rfl (by decide) dX10_init_139 ?_
  refine y_eq (ws' := [(h, .inr (9, [.int 0, .ref q0, .ref q1, .int 0, .ref q2, .ref q3, .int 0, .ref q4, .int 0, .int 0, .int 0, .int 0, .int (-1), .int 0, .ref q5, .int 0, .int 0, .int 0, .ref q6, .ref q7, .ref q8, .ref q9, .ref q10, .ref q11, .ref q12, .ref q13, .ref q14, .ref q15])), (q0, .inl (X.2.1 0, 807, .inl (fun _ => 0))), (q1, .inl (X.2.1 0, 807, .inl (fun _ => 0))), (q2, .inl (X.2.1 0, 407, .inl (fun _ => 0))), (q3, .inl (X.2.1 0, 4884, .inl (fun _ => 0))), (q4, .inl (X.2.1 0, 400, .inl (fun _ => 0))), (q5, .inl (X.2.1 0, 6, .inl (fun _ => 0))), (q6, .inl (X.2.1 0, 90, .inl (fun _ => 0))), (q7, .inl (X.2.1 0, 10, .inl (fun _ => 0))), (q8, .inl (X.2.1 0, 10, .inl (fun _ => 0))), (q9, .inl (X.2.1 0, 9, .inl (fun _ => 0))), (q10, .inl (X.2.1 0, 10, .inl (fun _ => 0))), (q11, .inl (X.2.1 0, 10, .inl (fun _ => 0))), (q12, .inl (X.2.1 0, 9, .inl (fun _ => 0))), (q13, .inl (X.2.1 0, 19, .inl (fun _ => 0))), (q14, .inl (X.2.1 0, 19, .inl (fun _ => 0))), (q15, .inl (X.2.1 4, 64, .inl (fun _ => 0)))]) rfl ?_
  refine y_aload_n S dX10_init_142 rfl 0 rfl ?_
  refine y_getF S fp_RX10_7 rfl dX10_init_143 ?_
  refine y_iconst (v := 1) S dX10_init_146 (by decide) ?_
  refine y_iconst (v := (-1)) S dX10_init_147 (by decide) ?_
  refine y_iast1 S (by decide) dX10_init_148 ?_
  refine y_eq (ws' := [(h, .inr (9, [.int 0, .ref q0, .ref q1, .int 0, .ref q2, .ref q3, .int 0, .ref q4, .int 0, .int 0, .int 0, .int 0, .int (-1), .int 0, .ref q5, .int 0, .int 0, .int 0, .ref q6, .ref q7, .ref q8, .ref q9, .ref q10, .ref q11, .ref q12, .ref q13, .ref q14, .ref q15])), (q0, .inl (X.2.1 0, 807, .inl (upd (fun _ => 0) 1 (-1)))), (q1, .inl (X.2.1 0, 807, .inl (fun _ => 0))), (q2, .inl (X.2.1 0, 407, .inl (fun _ => 0))), (q3, .inl (X.2.1 0, 4884, .inl (fun _ => 0))), (q4, .inl (X.2.1 0, 400, .inl (fun _ => 0))), (q5, .inl (X.2.1 0, 6, .inl (fun _ => 0))), (q6, .inl (X.2.1 0, 90, .inl (fun _ => 0))), (q7, .inl (X.2.1 0, 10, .inl (fun _ => 0))), (q8, .inl (X.2.1 0, 10, .inl (fun _ => 0))), (q9, .inl (X.2.1 0, 9, .inl (fun _ => 0))), (q10, .inl (X.2.1 0, 10, .inl (fun _ => 0))), (q11, .inl (X.2.1 0, 10, .inl (fun _ => 0))), (q12, .inl (X.2.1 0, 9, .inl (fun _ => 0))), (q13, .inl (X.2.1 0, 19, .inl (fun _ => 0))), (q14, .inl (X.2.1 0, 19, .inl (fun _ => 0))), (q15, .inl (X.2.1 4, 64, .inl (fun _ => 0)))]) rfl ?_
  refine y_aload_n S dX10_init_149 rfl 0 rfl ?_
  refine y_getF S fp_RX10_7 rfl dX10_init_150 ?_
  refine y_iconst (v := 5) S dX10_init_153 (by decide) ?_
  refine y_iconst (v := 2) S dX10_init_154 (by decide) ?_
  refine y_iast1 S (by decide) dX10_init_155 ?_
  refine y_eq (ws' := [(h, .inr (9, [.int 0, .ref q0, .ref q1, .int 0, .ref q2, .ref q3, .int 0, .ref q4, .int 0, .int 0, .int 0, .int 0, .int (-1), .int 0, .ref q5, .int 0, .int 0, .int 0, .ref q6, .ref q7, .ref q8, .ref q9, .ref q10, .ref q11, .ref q12, .ref q13, .ref q14, .ref q15])), (q0, .inl (X.2.1 0, 807, .inl (upd (upd (fun _ => 0) 1 (-1)) 5 2))), (q1, .inl (X.2.1 0, 807, .inl (fun _ => 0))), (q2, .inl (X.2.1 0, 407, .inl (fun _ => 0))), (q3, .inl (X.2.1 0, 4884, .inl (fun _ => 0))), (q4, .inl (X.2.1 0, 400, .inl (fun _ => 0))), (q5, .inl (X.2.1 0, 6, .inl (fun _ => 0))), (q6, .inl (X.2.1 0, 90, .inl (fun _ => 0))), (q7, .inl (X.2.1 0, 10, .inl (fun _ => 0))), (q8, .inl (X.2.1 0, 10, .inl (fun _ => 0))), (q9, .inl (X.2.1 0, 9, .inl (fun _ => 0))), (q10, .inl (X.2.1 0, 10, .inl (fun _ => 0))), (q11, .inl (X.2.1 0, 10, .inl (fun _ => 0))), (q12, .inl (X.2.1 0, 9, .inl (fun _ => 0))), (q13, .inl (X.2.1 0, 19, .inl (fun _ => 0))), (q14, .inl (X.2.1 0, 19, .inl (fun _ => 0))), (q15, .inl (X.2.1 4, 64, .inl (fun _ => 0)))]) rfl ?_
  refine y_aload_n S dX10_init_156 rfl 0 rfl ?_
  refine y_getF S fp_RX10_7 rfl dX10_init_157 ?_
  refine y_bipush (v := 9) S dX10_init_160 (by decide) ?_
  refine y_iconst (v := 1) S dX10_init_162 (by decide) ?_
  refine y_iast1 S (by decide) dX10_init_163 ?_
  refine y_eq (ws' := [(h, .inr (9, [.int 0, .ref q0, .ref q1, .int 0, .ref q2, .ref q3, .int 0, .ref q4, .int 0, .int 0, .int 0, .int 0, .int (-1), .int 0, .ref q5, .int 0, .int 0, .int 0, .ref q6, .ref q7, .ref q8, .ref q9, .ref q10, .ref q11, .ref q12, .ref q13, .ref q14, .ref q15])), (q0, .inl (X.2.1 0, 807, .inl (upd (upd (upd (fun _ => 0) 1 (-1)) 5 2) 9 1))), (q1, .inl (X.2.1 0, 807, .inl (fun _ => 0))), (q2, .inl (X.2.1 0, 407, .inl (fun _ => 0))), (q3, .inl (X.2.1 0, 4884, .inl (fun _ => 0))), (q4, .inl (X.2.1 0, 400, .inl (fun _ => 0))), (q5, .inl (X.2.1 0, 6, .inl (fun _ => 0))), (q6, .inl (X.2.1 0, 90, .inl (fun _ => 0))), (q7, .inl (X.2.1 0, 10, .inl (fun _ => 0))), (q8, .inl (X.2.1 0, 10, .inl (fun _ => 0))), (q9, .inl (X.2.1 0, 9, .inl (fun _ => 0))), (q10, .inl (X.2.1 0, 10, .inl (fun _ => 0))), (q11, .inl (X.2.1 0, 10, .inl (fun _ => 0))), (q12, .inl (X.2.1 0, 9, .inl (fun _ => 0))), (q13, .inl (X.2.1 0, 19, .inl (fun _ => 0))), (q14, .inl (X.2.1 0, 19, .inl (fun _ => 0))), (q15, .inl (X.2.1 4, 64, .inl (fun _ => 0)))]) rfl ?_
  exact y_vret S hr hlk (fun i => [q0, q1, q2, q3, q4, q5, q6, q7, q8, q9, q10, q11, q12, q13, q14, q15].getD i 0) rfl (Nat.le_of_ble_eq_true rfl) (Nat.le_of_ble_eq_true rfl) dX10_init_164
def Wc_X9_init (X : Cx) (h : Nat) (u : Nat → Nat) : va_W := (h, .inr (8, [.ref (u 0), .int 0, .int (-1), .ref (u 1), .ref (u 5), .ref (u 9), .ref (u 15), .ref (u 21), .ref (u 25), .int 0, .ref (u 31), .int 0, .ref (u 32), .ref (u 37), .ref (u 40), .ref (u 47), .ref (u 52)])) :: ((u 31), .inl (X.2.1 2, 12, .inr (.inr (.inr (.inr (va_up (va_up (va_up (va_up (va_up (va_up (va_up (va_up (va_up (va_up (va_up (va_up (fun _ => none) 0 (some (u 58))) 1 (some (u 62))) 2 (some (u 66))) 3 (some (u 70))) 4 (some (u 74))) 5 (some (u 78))) 6 (some (u 82))) 7 (some (u 86))) 8 (some (u 90))) 9 (some (u 94))) 10 (some (u 98))) 11 (some (u 102)))))))) :: (((((((((((((((((((((((([] ++ [((u 0), .inl (X.2.1 0, 400, .inl (fun _ => 0)))]) ++ Wc_X4_init X (u 1) (fun i => u (2 + i))) ++ Wc_X4_init X (u 5) (fun i => u (6 + i))) ++ Wc_X2_init X (u 9) (fun i => u (10 + i))) ++ Wc_X2_init X (u 15) (fun i => u (16 + i))) ++ Wc_X4_init X (u 21) (fun i => u (22 + i))) ++ Wc_X2_init X (u 25) (fun i => u (26 + i))) ++ Wc_X6_init X (u 32) (fun i => u (33 + i))) ++ Wc_X5_init X (u 37) (fun i => u (38 + i))) ++ Wc_X0_init X (u 40) (fun i => u (41 + i))) ++ Wc_X1_init X (u 47) (fun i => u (48 + i))) ++ Wc_X3_init X (u 52) (fun i => u (53 + i))) ++ Wc_X4_init X (u 58) (fun i => u (59 + i))) ++ Wc_X4_init X (u 62) (fun i => u (63 + i))) ++ Wc_X4_init X (u 66) (fun i => u (67 + i))) ++ Wc_X4_init X (u 70) (fun i => u (71 + i))) ++ Wc_X4_init X (u 74) (fun i => u (75 + i))) ++ Wc_X4_init X (u 78) (fun i => u (79 + i))) ++ Wc_X4_init X (u 82) (fun i => u (83 + i))) ++ Wc_X4_init X (u 86) (fun i => u (87 + i))) ++ Wc_X4_init X (u 90) (fun i => u (91 + i))) ++ Wc_X4_init X (u 94) (fun i => u (95 + i))) ++ Wc_X4_init X (u 98) (fun i => u (99 + i))) ++ Wc_X4_init X (u 102) (fun i => u (103 + i)))
def rm_X9_init : Room := rmx 3 52 106 10575
set_option maxRecDepth 100000 in
set_option maxHeartbeats 8000000 in
theorem KC_X9_init {X : Cx} {l : Launch} : KC X l yX9_init (wz yX9_init cX9_init 2 none) rm_X9_init 106 10575 8 [.null, .int 0, .int 0, .null, .null, .null, .null, .null, .null, .int 0, .null, .int 0, .null, .null, .null, .null, .null] (Wc_X9_init X) := by
  refine KC_of (own := RX9) (by decide +kernel) rfl (Nat.le_of_ble_eq_true rfl) rfl (fun A h p e s m args below meth c S hI hr hlk => ?_)
  refine y_aload_n S dX9_init_0 rfl 0 rfl ?_
  refine y_objInit S oi_RX9_1 oi_a oi_b dX9_init_1 (Nat.le_of_ble_eq_true rfl) (Nat.le_of_ble_eq_true rfl) ?_
  refine y_aload_n S dX9_init_4 rfl 0 rfl ?_
  refine y_sipush (v := 400) S dX9_init_5 (by decide) ?_
  refine y_newa S 0 ac_int rfl rfl (N' := 400) (xa := .inl (fun _ => 0)) (fun cA => rfl) (by decide) (by decide) (by decide) (Nat.le_of_ble_eq_true rfl) (Nat.le_of_ble_eq_true rfl) dX9_init_8 (fun q0 => ?_)
  refine y_eq (ws' := (h, .inr (8, [.null, .int 0, .int 0, .null, .null, .null, .null, .null, .null, .int 0, .null, .int 0, .null, .null, .null, .null, .null])) :: ([] ++ [(q0, .inl (X.2.1 0, 400, .inl (fun _ => 0)))])) rfl ?_
  refine y_putF S hI fp_RX9_9 rfl rfl (by decide) dX9_init_10 ?_
  refine y_eq (ws' := (h, .inr (8, [.ref q0, .int 0, .int 0, .null, .null, .null, .null, .null, .null, .int 0, .null, .int 0, .null, .null, .null, .null, .null])) :: ([] ++ [(q0, .inl (X.2.1 0, 400, .inl (fun _ => 0)))])) rfl ?_
  refine y_aload_n S dX9_init_13 rfl 0 rfl ?_
  refine y_iconst (v := (-1)) S dX9_init_14 (by decide) ?_
  refine y_putV S fp_RX9_13 rfl rfl (by decide) dX9_init_15 ?_
  refine y_eq (ws' := (h, .inr (8, [.ref q0, .int 0, .int (-1), .null, .null, .null, .null, .null, .null, .int 0, .null, .int 0, .null, .null, .null, .null, .null])) :: ([] ++ [(q0, .inl (X.2.1 0, 400, .inl (fun _ => 0)))])) rfl ?_
  refine y_aload_n S dX9_init_18 rfl 0 rfl ?_
  refine y_new S nf_RX9_17 (Nat.le_of_ble_eq_true rfl) (Nat.le_of_ble_eq_true rfl) dX9_init_19 (fun q1 => ?_)
  refine y_dup S dX9_init_22 ?_
  refine y_cN S ci_RX9_19 (KC_X4_init (X := X) (l := l)) ⟨rfl, rfl⟩ ⟨Nat.le_of_ble_eq_true rfl, Nat.le_of_ble_eq_true rfl⟩ ⟨Nat.le_of_ble_eq_true rfl, Nat.le_of_ble_eq_true rfl⟩ (by decide) dX9_init_23 (fun u2 => ?_)
  refine y_eq (ws' := (h, .inr (8, [.ref q0, .int 0, .int (-1), .null, .null, .null, .null, .null, .null, .int 0, .null, .int 0, .null, .null, .null, .null, .null])) :: (([] ++ [(q0, .inl (X.2.1 0, 400, .inl (fun _ => 0)))]) ++ Wc_X4_init X q1 u2)) rfl ?_
  refine y_putV S fp_RX9_20 rfl rfl (by decide) dX9_init_26 ?_
  refine y_eq (ws' := (h, .inr (8, [.ref q0, .int 0, .int (-1), .ref q1, .null, .null, .null, .null, .null, .int 0, .null, .int 0, .null, .null, .null, .null, .null])) :: (([] ++ [(q0, .inl (X.2.1 0, 400, .inl (fun _ => 0)))]) ++ Wc_X4_init X q1 u2)) rfl ?_
  refine y_aload_n S dX9_init_29 rfl 0 rfl ?_
  refine y_new S nf_RX9_17 (Nat.le_of_ble_eq_true rfl) (Nat.le_of_ble_eq_true rfl) dX9_init_30 (fun q5 => ?_)
  refine y_dup S dX9_init_33 ?_
  refine y_cN S ci_RX9_19 (KC_X4_init (X := X) (l := l)) ⟨rfl, rfl⟩ ⟨Nat.le_of_ble_eq_true rfl, Nat.le_of_ble_eq_true rfl⟩ ⟨Nat.le_of_ble_eq_true rfl, Nat.le_of_ble_eq_true rfl⟩ (by decide) dX9_init_34 (fun u6 => ?_)
  refine y_eq (ws' := (h, .inr (8, [.ref q0, .int 0, .int (-1), .ref q1, .null, .null, .null, .null, .null, .int 0, .null, .int 0, .null, .null, .null, .null, .null])) :: ((([] ++ [(q0, .inl (X.2.1 0, 400, .inl (fun _ => 0)))]) ++ Wc_X4_init X q1 u2) ++ Wc_X4_init X q5 u6)) rfl ?_
  refine y_putV S fp_RX9_24 rfl rfl (by decide) dX9_init_37 ?_
  refine y_eq (ws' := (h, .inr (8, [.ref q0, .int 0, .int (-1), .ref q1, .ref q5, .null, .null, .null, .null, .int 0, .null, .int 0, .null, .null, .null, .null, .null])) :: ((([] ++ [(q0, .inl (X.2.1 0, 400, .inl (fun _ => 0)))]) ++ Wc_X4_init X q1 u2) ++ Wc_X4_init X q5 u6)) rfl ?_
  refine y_aload_n S dX9_init_40 rfl 0 rfl ?_
  refine y_new S nf_RX9_27 (Nat.le_of_ble_eq_true rfl) (Nat.le_of_ble_eq_true rfl) dX9_init_41 (fun q9 => ?_)
  refine y_dup S dX9_init_44 ?_
  refine y_cN S ci_RX9_29 (KC_X2_init (X := X) (l := l)) ⟨rfl, rfl⟩ ⟨Nat.le_of_ble_eq_true rfl, Nat.le_of_ble_eq_true rfl⟩ ⟨Nat.le_of_ble_eq_true rfl, Nat.le_of_ble_eq_true rfl⟩ (by decide) dX9_init_45 (fun u10 => ?_)
  refine y_eq (ws' := (h, .inr (8, [.ref q0, .int 0, .int (-1), .ref q1, .ref q5, .null, .null, .null, .null, .int 0, .null, .int 0, .null, .null, .null, .null, .null])) :: (((([] ++ [(q0, .inl (X.2.1 0, 400, .inl (fun _ => 0)))]) ++ Wc_X4_init X q1 u2) ++ Wc_X4_init X q5 u6) ++ Wc_X2_init X q9 u10)) rfl ?_
  refine y_putV S fp_RX9_30 rfl rfl (by decide) dX9_init_48 ?_
  refine y_eq (ws' := (h, .inr (8, [.ref q0, .int 0, .int (-1), .ref q1, .ref q5, .ref q9, .null, .null, .null, .int 0, .null, .int 0, .null, .null, .null, .null, .null])) :: (((([] ++ [(q0, .inl (X.2.1 0, 400, .inl (fun _ => 0)))]) ++ Wc_X4_init X q1 u2) ++ Wc_X4_init X q5 u6) ++ Wc_X2_init X q9 u10)) rfl ?_
  refine y_aload_n S dX9_init_51 rfl 0 rfl ?_
  refine y_new S nf_RX9_27 (Nat.le_of_ble_eq_true rfl) (Nat.le_of_ble_eq_true rfl) dX9_init_52 (fun q15 => ?_)
  refine y_dup S dX9_init_55 ?_
  refine y_cN S ci_RX9_29 (KC_X2_init (X := X) (l := l)) ⟨rfl, rfl⟩ ⟨Nat.le_of_ble_eq_true rfl, Nat.le_of_ble_eq_true rfl⟩ ⟨Nat.le_of_ble_eq_true rfl, Nat.le_of_ble_eq_true rfl⟩ (by decide) dX9_init_56 (fun u16 => ?_)
  refine y_eq (ws' := (h, .inr (8, [.ref q0, .int 0, .int (-1), .ref q1, .ref q5, .ref q9, .null, .null, .null, .int 0, .null, .int 0, .null, .null, .null, .null, .null])) :: ((((([] ++ [(q0, .inl (X.2.1 0, 400, .inl (fun _ => 0)))]) ++ Wc_X4_init X q1 u2) ++ Wc_X4_init X q5 u6) ++ Wc_X2_init X q9 u10) ++ Wc_X2_init X q15 u16)) rfl ?_
  refine y_putV S fp_RX9_34 rfl rfl (by decide) dX9_init_59 ?_
  refine y_eq (ws' := (h, .inr (8, [.ref q0, .int 0, .int (-1), .ref q1, .ref q5, .ref q9, .ref q15, .null, .null, .int 0, .null, .int 0, .null, .null, .null, .null, .null])) :: ((((([] ++ [(q0, .inl (X.2.1 0, 400, .inl (fun _ => 0)))]) ++ Wc_X4_init X q1 u2) ++ Wc_X4_init X q5 u6) ++ Wc_X2_init X q9 u10) ++ Wc_X2_init X q15 u16)) rfl ?_
  refine y_aload_n S dX9_init_62 rfl 0 rfl ?_
  refine y_new S nf_RX9_17 (Nat.le_of_ble_eq_true rfl) (Nat.le_of_ble_eq_true rfl) dX9_init_63 (fun q21 => ?_)
  refine y_dup S dX9_init_66 ?_
  refine y_cN S ci_RX9_19 (KC_X4_init (X := X) (l := l)) ⟨rfl, rfl⟩ ⟨Nat.le_of_ble_eq_true rfl, Nat.le_of_ble_eq_true rfl⟩ ⟨Nat.le_of_ble_eq_true rfl, Nat.le_of_ble_eq_true rfl⟩ (by decide) dX9_init_67 (fun u22 => ?_)
  refine y_eq (ws' := (h, .inr (8, [.ref q0, .int 0, .int (-1), .ref q1, .ref q5, .ref q9, .ref q15, .null, .null, .int 0, .null, .int 0, .null, .null, .null, .null, .null])) :: (((((([] ++ [(q0, .inl (X.2.1 0, 400, .inl (fun _ => 0)))]) ++ Wc_X4_init X q1 u2) ++ Wc_X4_init X q5 u6) ++ Wc_X2_init X q9 u10) ++ Wc_X2_init X q15 u16) ++ Wc_X4_init X q21 u22)) rfl ?_
  refine y_putF S hI fp_RX9_37 rfl rfl (by decide) dX9_init_70 ?_
  refine y_eq (ws' := (h, .inr (8, [.ref q0, .int 0, .int (-1), .ref q1, .ref q5, .ref q9, .ref q15, .ref q21, .null, .int 0, .null, .int 0, .null, .null, .null, .null, .null])) :: (((((([] ++ [(q0, .inl (X.2.1 0, 400, .inl (fun _ => 0)))]) ++ Wc_X4_init X q1 u2) ++ Wc_X4_init X q5 u6) ++ Wc_X2_init X q9 u10) ++ Wc_X2_init X q15 u16) ++ Wc_X4_init X q21 u22)) rfl ?_
  refine y_aload_n S dX9_init_73 rfl 0 rfl ?_
  refine y_new S nf_RX9_27 (Nat.le_of_ble_eq_true rfl) (Nat.le_of_ble_eq_true rfl) dX9_init_74 (fun q25 => ?_)
  refine y_dup S dX9_init_77 ?_
  refine y_cN S ci_RX9_29 (KC_X2_init (X := X) (l := l)) ⟨rfl, rfl⟩ ⟨Nat.le_of_ble_eq_true rfl, Nat.le_of_ble_eq_true rfl⟩ ⟨Nat.le_of_ble_eq_true rfl, Nat.le_of_ble_eq_true rfl⟩ (by decide) dX9_init_78 (fun u26 => ?_)
  refine y_eq (ws' := (h, .inr (8, [.ref q0, .int 0, .int (-1), .ref q1, .ref q5, .ref q9, .ref q15, .ref q21, .null, .int 0, .null, .int 0, .null, .null, .null, .null, .null])) :: ((((((([] ++ [(q0, .inl (X.2.1 0, 400, .inl (fun _ => 0)))]) ++ Wc_X4_init X q1 u2) ++ Wc_X4_init X q5 u6) ++ Wc_X2_init X q9 u10) ++ Wc_X2_init X q15 u16) ++ Wc_X4_init X q21 u22) ++ Wc_X2_init X q25 u26)) rfl ?_
  refine y_putF S hI fp_RX9_40 rfl rfl (by decide) dX9_init_81 ?_
  refine y_eq (ws' := (h, .inr (8, [.ref q0, .int 0, .int (-1), .ref q1, .ref q5, .ref q9, .ref q15, .ref q21, .ref q25, .int 0, .null, .int 0, .null, .null, .null, .null, .null])) :: ((((((([] ++ [(q0, .inl (X.2.1 0, 400, .inl (fun _ => 0)))]) ++ Wc_X4_init X q1 u2) ++ Wc_X4_init X q5 u6) ++ Wc_X2_init X q9 u10) ++ Wc_X2_init X q15 u16) ++ Wc_X4_init X q21 u22) ++ Wc_X2_init X q25 u26)) rfl ?_
  refine y_aload_n S dX9_init_84 rfl 0 rfl ?_
  refine y_bipush (v := 12) S dX9_init_85 (by decide) ?_
  refine y_newq S 2 cl_RX9_17 S.2.2.2.2 rfl (N' := 12) (by decide) (by decide) (by decide) (Nat.le_of_ble_eq_true rfl) (Nat.le_of_ble_eq_true rfl) dX9_init_87 (fun q31 => ?_)
  refine y_swap2 ?_
  refine y_eq (ws' := (h, .inr (8, [.ref q0, .int 0, .int (-1), .ref q1, .ref q5, .ref q9, .ref q15, .ref q21, .ref q25, .int 0, .null, .int 0, .null, .null, .null, .null, .null])) :: (q31, .inl (X.2.1 2, 12, .inr (.inr (.inr (.inr (fun _ => none)))))) :: ((((((([] ++ [(q0, .inl (X.2.1 0, 400, .inl (fun _ => 0)))]) ++ Wc_X4_init X q1 u2) ++ Wc_X4_init X q5 u6) ++ Wc_X2_init X q9 u10) ++ Wc_X2_init X q15 u16) ++ Wc_X4_init X q21 u22) ++ Wc_X2_init X q25 u26)) rfl ?_
  refine y_putF S hI fp_RX9_43 rfl rfl (by decide) dX9_init_90 ?_
  refine y_eq (ws' := (h, .inr (8, [.ref q0, .int 0, .int (-1), .ref q1, .ref q5, .ref q9, .ref q15, .ref q21, .ref q25, .int 0, .ref q31, .int 0, .null, .null, .null, .null, .null])) :: (q31, .inl (X.2.1 2, 12, .inr (.inr (.inr (.inr (fun _ => none)))))) :: ((((((([] ++ [(q0, .inl (X.2.1 0, 400, .inl (fun _ => 0)))]) ++ Wc_X4_init X q1 u2) ++ Wc_X4_init X q5 u6) ++ Wc_X2_init X q9 u10) ++ Wc_X2_init X q15 u16) ++ Wc_X4_init X q21 u22) ++ Wc_X2_init X q25 u26)) rfl ?_
  refine y_aload_n S dX9_init_93 rfl 0 rfl ?_
  refine y_new S nf_RX9_47 (Nat.le_of_ble_eq_true rfl) (Nat.le_of_ble_eq_true rfl) dX9_init_94 (fun q32 => ?_)
  refine y_dup S dX9_init_97 ?_
  refine y_cN S ci_RX9_49 (KC_X6_init (X := X) (l := l)) ⟨rfl, rfl⟩ ⟨Nat.le_of_ble_eq_true rfl, Nat.le_of_ble_eq_true rfl⟩ ⟨Nat.le_of_ble_eq_true rfl, Nat.le_of_ble_eq_true rfl⟩ (by decide) dX9_init_98 (fun u33 => ?_)
  refine y_eq (ws' := (h, .inr (8, [.ref q0, .int 0, .int (-1), .ref q1, .ref q5, .ref q9, .ref q15, .ref q21, .ref q25, .int 0, .ref q31, .int 0, .null, .null, .null, .null, .null])) :: (q31, .inl (X.2.1 2, 12, .inr (.inr (.inr (.inr (fun _ => none)))))) :: (((((((([] ++ [(q0, .inl (X.2.1 0, 400, .inl (fun _ => 0)))]) ++ Wc_X4_init X q1 u2) ++ Wc_X4_init X q5 u6) ++ Wc_X2_init X q9 u10) ++ Wc_X2_init X q15 u16) ++ Wc_X4_init X q21 u22) ++ Wc_X2_init X q25 u26) ++ Wc_X6_init X q32 u33)) rfl ?_
  refine y_putF S hI fp_RX9_50 rfl rfl (by decide) dX9_init_101 ?_
  refine y_eq (ws' := (h, .inr (8, [.ref q0, .int 0, .int (-1), .ref q1, .ref q5, .ref q9, .ref q15, .ref q21, .ref q25, .int 0, .ref q31, .int 0, .ref q32, .null, .null, .null, .null])) :: (q31, .inl (X.2.1 2, 12, .inr (.inr (.inr (.inr (fun _ => none)))))) :: (((((((([] ++ [(q0, .inl (X.2.1 0, 400, .inl (fun _ => 0)))]) ++ Wc_X4_init X q1 u2) ++ Wc_X4_init X q5 u6) ++ Wc_X2_init X q9 u10) ++ Wc_X2_init X q15 u16) ++ Wc_X4_init X q21 u22) ++ Wc_X2_init X q25 u26) ++ Wc_X6_init X q32 u33)) rfl ?_
  refine y_aload_n S dX9_init_104 rfl 0 rfl ?_
  refine y_new S nf_RX9_54 (Nat.le_of_ble_eq_true rfl) (Nat.le_of_ble_eq_true rfl) dX9_init_105 (fun q37 => ?_)
  refine y_dup S dX9_init_108 ?_
  refine y_cN S ci_RX9_56 (KC_X5_init (X := X) (l := l)) ⟨rfl, rfl⟩ ⟨Nat.le_of_ble_eq_true rfl, Nat.le_of_ble_eq_true rfl⟩ ⟨Nat.le_of_ble_eq_true rfl, Nat.le_of_ble_eq_true rfl⟩ (by decide) dX9_init_109 (fun u38 => ?_)
  refine y_eq (ws' := (h, .inr (8, [.ref q0, .int 0, .int (-1), .ref q1, .ref q5, .ref q9, .ref q15, .ref q21, .ref q25, .int 0, .ref q31, .int 0, .ref q32, .null, .null, .null, .null])) :: (q31, .inl (X.2.1 2, 12, .inr (.inr (.inr (.inr (fun _ => none)))))) :: ((((((((([] ++ [(q0, .inl (X.2.1 0, 400, .inl (fun _ => 0)))]) ++ Wc_X4_init X q1 u2) ++ Wc_X4_init X q5 u6) ++ Wc_X2_init X q9 u10) ++ Wc_X2_init X q15 u16) ++ Wc_X4_init X q21 u22) ++ Wc_X2_init X q25 u26) ++ Wc_X6_init X q32 u33) ++ Wc_X5_init X q37 u38)) rfl ?_
  refine y_putF S hI fp_RX9_57 rfl rfl (by decide) dX9_init_112 ?_
  refine y_eq (ws' := (h, .inr (8, [.ref q0, .int 0, .int (-1), .ref q1, .ref q5, .ref q9, .ref q15, .ref q21, .ref q25, .int 0, .ref q31, .int 0, .ref q32, .ref q37, .null, .null, .null])) :: (q31, .inl (X.2.1 2, 12, .inr (.inr (.inr (.inr (fun _ => none)))))) :: ((((((((([] ++ [(q0, .inl (X.2.1 0, 400, .inl (fun _ => 0)))]) ++ Wc_X4_init X q1 u2) ++ Wc_X4_init X q5 u6) ++ Wc_X2_init X q9 u10) ++ Wc_X2_init X q15 u16) ++ Wc_X4_init X q21 u22) ++ Wc_X2_init X q25 u26) ++ Wc_X6_init X q32 u33) ++ Wc_X5_init X q37 u38)) rfl ?_
  refine y_aload_n S dX9_init_115 rfl 0 rfl ?_
  refine y_new S nf_RX9_61 (Nat.le_of_ble_eq_true rfl) (Nat.le_of_ble_eq_true rfl) dX9_init_116 (fun q40 => ?_)
  refine y_dup S dX9_init_119 ?_
  refine y_cN S ci_RX9_63 (KC_X0_init (X := X) (l := l)) ⟨rfl, rfl⟩ ⟨Nat.le_of_ble_eq_true rfl, Nat.le_of_ble_eq_true rfl⟩ ⟨Nat.le_of_ble_eq_true rfl, Nat.le_of_ble_eq_true rfl⟩ (by decide) dX9_init_120 (fun u41 => ?_)
  refine y_eq (ws' := (h, .inr (8, [.ref q0, .int 0, .int (-1), .ref q1, .ref q5, .ref q9, .ref q15, .ref q21, .ref q25, .int 0, .ref q31, .int 0, .ref q32, .ref q37, .null, .null, .null])) :: (q31, .inl (X.2.1 2, 12, .inr (.inr (.inr (.inr (fun _ => none)))))) :: (((((((((([] ++ [(q0, .inl (X.2.1 0, 400, .inl (fun _ => 0)))]) ++ Wc_X4_init X q1 u2) ++ Wc_X4_init X q5 u6) ++ Wc_X2_init X q9 u10) ++ Wc_X2_init X q15 u16) ++ Wc_X4_init X q21 u22) ++ Wc_X2_init X q25 u26) ++ Wc_X6_init X q32 u33) ++ Wc_X5_init X q37 u38) ++ Wc_X0_init X q40 u41)) rfl ?_
  refine y_putF S hI fp_RX9_64 rfl rfl (by decide) dX9_init_123 ?_
  refine y_eq (ws' := (h, .inr (8, [.ref q0, .int 0, .int (-1), .ref q1, .ref q5, .ref q9, .ref q15, .ref q21, .ref q25, .int 0, .ref q31, .int 0, .ref q32, .ref q37, .ref q40, .null, .null])) :: (q31, .inl (X.2.1 2, 12, .inr (.inr (.inr (.inr (fun _ => none)))))) :: (((((((((([] ++ [(q0, .inl (X.2.1 0, 400, .inl (fun _ => 0)))]) ++ Wc_X4_init X q1 u2) ++ Wc_X4_init X q5 u6) ++ Wc_X2_init X q9 u10) ++ Wc_X2_init X q15 u16) ++ Wc_X4_init X q21 u22) ++ Wc_X2_init X q25 u26) ++ Wc_X6_init X q32 u33) ++ Wc_X5_init X q37 u38) ++ Wc_X0_init X q40 u41)) rfl ?_
  refine y_aload_n S dX9_init_126 rfl 0 rfl ?_
  refine y_new S nf_RX9_68 (Nat.le_of_ble_eq_true rfl) (Nat.le_of_ble_eq_true rfl) dX9_init_127 (fun q47 => ?_)
  refine y_dup S dX9_init_130 ?_
  refine y_cN S ci_RX9_70 (KC_X1_init (X := X) (l := l)) ⟨rfl, rfl⟩ ⟨Nat.le_of_ble_eq_true rfl, Nat.le_of_ble_eq_true rfl⟩ ⟨Nat.le_of_ble_eq_true rfl, Nat.le_of_ble_eq_true rfl⟩ (by decide) dX9_init_131 (fun u48 => ?_)
  refine y_eq (ws' := (h, .inr (8, [.ref q0, .int 0, .int (-1), .ref q1, .ref q5, .ref q9, .ref q15, .ref q21, .ref q25, .int 0, .ref q31, .int 0, .ref q32, .ref q37, .ref q40, .null, .null])) :: (q31, .inl (X.2.1 2, 12, .inr (.inr (.inr (.inr (fun _ => none)))))) :: ((((((((((([] ++ [(q0, .inl (X.2.1 0, 400, .inl (fun _ => 0)))]) ++ Wc_X4_init X q1 u2) ++ Wc_X4_init X q5 u6) ++ Wc_X2_init X q9 u10) ++ Wc_X2_init X q15 u16) ++ Wc_X4_init X q21 u22) ++ Wc_X2_init X q25 u26) ++ Wc_X6_init X q32 u33) ++ Wc_X5_init X q37 u38) ++ Wc_X0_init X q40 u41) ++ Wc_X1_init X q47 u48)) rfl ?_
  refine y_putF S hI fp_RX9_71 rfl rfl (by decide) dX9_init_134 ?_
  refine y_eq (ws' := (h, .inr (8, [.ref q0, .int 0, .int (-1), .ref q1, .ref q5, .ref q9, .ref q15, .ref q21, .ref q25, .int 0, .ref q31, .int 0, .ref q32, .ref q37, .ref q40, .ref q47, .null])) :: (q31, .inl (X.2.1 2, 12, .inr (.inr (.inr (.inr (fun _ => none)))))) :: ((((((((((([] ++ [(q0, .inl (X.2.1 0, 400, .inl (fun _ => 0)))]) ++ Wc_X4_init X q1 u2) ++ Wc_X4_init X q5 u6) ++ Wc_X2_init X q9 u10) ++ Wc_X2_init X q15 u16) ++ Wc_X4_init X q21 u22) ++ Wc_X2_init X q25 u26) ++ Wc_X6_init X q32 u33) ++ Wc_X5_init X q37 u38) ++ Wc_X0_init X q40 u41) ++ Wc_X1_init X q47 u48)) rfl ?_
  refine y_aload_n S dX9_init_137 rfl 0 rfl ?_
  refine y_new S nf_RX9_75 (Nat.le_of_ble_eq_true rfl) (Nat.le_of_ble_eq_true rfl) dX9_init_138 (fun q52 => ?_)
  refine y_dup S dX9_init_141 ?_
  refine y_cN S ci_RX9_77 (KC_X3_init (X := X) (l := l)) ⟨rfl, rfl⟩ ⟨Nat.le_of_ble_eq_true rfl, Nat.le_of_ble_eq_true rfl⟩ ⟨Nat.le_of_ble_eq_true rfl, Nat.le_of_ble_eq_true rfl⟩ (by decide) dX9_init_142 (fun u53 => ?_)
  refine y_eq (ws' := (h, .inr (8, [.ref q0, .int 0, .int (-1), .ref q1, .ref q5, .ref q9, .ref q15, .ref q21, .ref q25, .int 0, .ref q31, .int 0, .ref q32, .ref q37, .ref q40, .ref q47, .null])) :: (q31, .inl (X.2.1 2, 12, .inr (.inr (.inr (.inr (fun _ => none)))))) :: (((((((((((([] ++ [(q0, .inl (X.2.1 0, 400, .inl (fun _ => 0)))]) ++ Wc_X4_init X q1 u2) ++ Wc_X4_init X q5 u6) ++ Wc_X2_init X q9 u10) ++ Wc_X2_init X q15 u16) ++ Wc_X4_init X q21 u22) ++ Wc_X2_init X q25 u26) ++ Wc_X6_init X q32 u33) ++ Wc_X5_init X q37 u38) ++ Wc_X0_init X q40 u41) ++ Wc_X1_init X q47 u48) ++ Wc_X3_init X q52 u53)) rfl ?_
  refine y_putF S hI fp_RX9_78 rfl rfl (by decide) dX9_init_145 ?_
  refine y_eq (ws' := (h, .inr (8, [.ref q0, .int 0, .int (-1), .ref q1, .ref q5, .ref q9, .ref q15, .ref q21, .ref q25, .int 0, .ref q31, .int 0, .ref q32, .ref q37, .ref q40, .ref q47, .ref q52])) :: (q31, .inl (X.2.1 2, 12, .inr (.inr (.inr (.inr (fun _ => none)))))) :: (((((((((((([] ++ [(q0, .inl (X.2.1 0, 400, .inl (fun _ => 0)))]) ++ Wc_X4_init X q1 u2) ++ Wc_X4_init X q5 u6) ++ Wc_X2_init X q9 u10) ++ Wc_X2_init X q15 u16) ++ Wc_X4_init X q21 u22) ++ Wc_X2_init X q25 u26) ++ Wc_X6_init X q32 u33) ++ Wc_X5_init X q37 u38) ++ Wc_X0_init X q40 u41) ++ Wc_X1_init X q47 u48) ++ Wc_X3_init X q52 u53)) rfl ?_
  refine y_iconst (v := 0) S dX9_init_148 (by decide) ?_
  refine y_istore_n (lv' := [(0, .ref h), (1, .int 0)]) S [1, 0] dX9_init_149 rfl (by decide) rfl ?_
  refine y_iload_n S dX9_init_150 rfl 1 rfl ?_
  refine y_aload_n S dX9_init_151 rfl 0 rfl ?_
  refine y_getF S fp_RX9_43 rfl dX9_init_152 ?_
  refine y_alen1 (t0 := 2) S rfl (by decide) dX9_init_155 ?_
  refine y_icmp_ge (tgt := 178) S dX9_init_156 (by decide) (fun h => absurd h (by decide)) (fun _ => ?_)
  refine y_aload_n S dX9_init_159 rfl 0 rfl ?_
  refine y_getF S fp_RX9_43 rfl dX9_init_160 ?_
  refine y_iload_n S dX9_init_163 rfl 1 rfl ?_
  refine y_new S nf_RX9_17 (Nat.le_of_ble_eq_true rfl) (Nat.le_of_ble_eq_true rfl) dX9_init_164 (fun q58 => ?_)
  refine y_dup S dX9_init_167 ?_
  refine y_cN S ci_RX9_19 (KC_X4_init (X := X) (l := l)) ⟨rfl, rfl⟩ ⟨Nat.le_of_ble_eq_true rfl, Nat.le_of_ble_eq_true rfl⟩ ⟨Nat.le_of_ble_eq_true rfl, Nat.le_of_ble_eq_true rfl⟩ (by decide) dX9_init_168 (fun u59 => ?_)
  refine y_eq (ws' := (h, .inr (8, [.ref q0, .int 0, .int (-1), .ref q1, .ref q5, .ref q9, .ref q15, .ref q21, .ref q25, .int 0, .ref q31, .int 0, .ref q32, .ref q37, .ref q40, .ref q47, .ref q52])) :: (q31, .inl (X.2.1 2, 12, .inr (.inr (.inr (.inr (fun _ => none)))))) :: ((((((((((((([] ++ [(q0, .inl (X.2.1 0, 400, .inl (fun _ => 0)))]) ++ Wc_X4_init X q1 u2) ++ Wc_X4_init X q5 u6) ++ Wc_X2_init X q9 u10) ++ Wc_X2_init X q15 u16) ++ Wc_X4_init X q21 u22) ++ Wc_X2_init X q25 u26) ++ Wc_X6_init X q32 u33) ++ Wc_X5_init X q37 u38) ++ Wc_X0_init X q40 u41) ++ Wc_X1_init X q47 u48) ++ Wc_X3_init X q52 u53) ++ Wc_X4_init X q58 u59)) rfl ?_
  refine y_mast1 S (W1 := Wc_X4_init X q58 u59) rfl (by decide) dX9_init_171 ?_
  refine y_eq (ws' := (h, .inr (8, [.ref q0, .int 0, .int (-1), .ref q1, .ref q5, .ref q9, .ref q15, .ref q21, .ref q25, .int 0, .ref q31, .int 0, .ref q32, .ref q37, .ref q40, .ref q47, .ref q52])) :: (q31, .inl (X.2.1 2, 12, .inr (.inr (.inr (.inr (va_up (fun _ => none) 0 (some q58))))))) :: ((((((((((((([] ++ [(q0, .inl (X.2.1 0, 400, .inl (fun _ => 0)))]) ++ Wc_X4_init X q1 u2) ++ Wc_X4_init X q5 u6) ++ Wc_X2_init X q9 u10) ++ Wc_X2_init X q15 u16) ++ Wc_X4_init X q21 u22) ++ Wc_X2_init X q25 u26) ++ Wc_X6_init X q32 u33) ++ Wc_X5_init X q37 u38) ++ Wc_X0_init X q40 u41) ++ Wc_X1_init X q47 u48) ++ Wc_X3_init X q52 u53) ++ Wc_X4_init X q58 u59)) rfl ?_
  refine y_iinc (v := 1) (lv' := [(0, .ref h), (1, .int 1)]) S [1, 0] 1 dX9_init_172 rfl (by decide) (by decide) rfl ?_
  refine y_goto (tgt := 150) S dX9_init_175 (by decide) ?_
  refine y_iload_n S dX9_init_150 rfl 1 rfl ?_
  refine y_aload_n S dX9_init_151 rfl 0 rfl ?_
  refine y_getF S fp_RX9_43 rfl dX9_init_152 ?_
  refine y_alen1 (t0 := 2) S rfl (by decide) dX9_init_155 ?_
  refine y_icmp_ge (tgt := 178) S dX9_init_156 (by decide) (fun h => absurd h (by decide)) (fun _ => ?_)
  refine y_aload_n S dX9_init_159 rfl 0 rfl ?_
  refine y_getF S fp_RX9_43 rfl dX9_init_160 ?_
  refine y_iload_n S dX9_init_163 rfl 1 rfl ?_
  refine y_new S nf_RX9_17 (Nat.le_of_ble_eq_true rfl) (Nat.le_of_ble_eq_true rfl) dX9_init_164 (fun q62 => ?_)
  refine y_dup S dX9_init_167 ?_
  refine y_cN S ci_RX9_19 (KC_X4_init (X := X) (l := l)) ⟨rfl, rfl⟩ ⟨Nat.le_of_ble_eq_true rfl, Nat.le_of_ble_eq_true rfl⟩ ⟨Nat.le_of_ble_eq_true rfl, Nat.le_of_ble_eq_true rfl⟩ (by decide) dX9_init_168 (fun u63 => ?_)
  refine y_eq (ws' := (h, .inr (8, [.ref q0, .int 0, .int (-1), .ref q1, .ref q5, .ref q9, .ref q15, .ref q21, .ref q25, .int 0, .ref q31, .int 0, .ref q32, .ref q37, .ref q40, .ref q47, .ref q52])) :: (q31, .inl (X.2.1 2, 12, .inr (.inr (.inr (.inr (va_up (fun _ => none) 0 (some q58))))))) :: (((((((((((((([] ++ [(q0, .inl (X.2.1 0, 400, .inl (fun _ => 0)))]) ++ Wc_X4_init X q1 u2) ++ Wc_X4_init X q5 u6) ++ Wc_X2_init X q9 u10) ++ Wc_X2_init X q15 u16) ++ Wc_X4_init X q21 u22) ++ Wc_X2_init X q25 u26) ++ Wc_X6_init X q32 u33) ++ Wc_X5_init X q37 u38) ++ Wc_X0_init X q40 u41) ++ Wc_X1_init X q47 u48) ++ Wc_X3_init X q52 u53) ++ Wc_X4_init X q58 u59) ++ Wc_X4_init X q62 u63)) rfl ?_
  refine y_mast1 S (W1 := Wc_X4_init X q62 u63) rfl (by decide) dX9_init_171 ?_
  refine y_eq (ws' := (h, .inr (8, [.ref q0, .int 0, .int (-1), .ref q1, .ref q5, .ref q9, .ref q15, .ref q21, .ref q25, .int 0, .ref q31, .int 0, .ref q32, .ref q37, .ref q40, .ref q47, .ref q52])) :: (q31, .inl (X.2.1 2, 12, .inr (.inr (.inr (.inr (va_up (va_up (fun _ => none) 0 (some q58)) 1 (some q62))))))) :: (((((((((((((([] ++ [(q0, .inl (X.2.1 0, 400, .inl (fun _ => 0)))]) ++ Wc_X4_init X q1 u2) ++ Wc_X4_init X q5 u6) ++ Wc_X2_init X q9 u10) ++ Wc_X2_init X q15 u16) ++ Wc_X4_init X q21 u22) ++ Wc_X2_init X q25 u26) ++ Wc_X6_init X q32 u33) ++ Wc_X5_init X q37 u38) ++ Wc_X0_init X q40 u41) ++ Wc_X1_init X q47 u48) ++ Wc_X3_init X q52 u53) ++ Wc_X4_init X q58 u59) ++ Wc_X4_init X q62 u63)) rfl ?_
  refine y_iinc (v := 2) (lv' := [(0, .ref h), (1, .int 2)]) S [1, 0] 1 dX9_init_172 rfl (by decide) (by decide) rfl ?_
  refine y_goto (tgt := 150) S dX9_init_175 (by decide) ?_
  refine y_iload_n S dX9_init_150 rfl 1 rfl ?_
  refine y_aload_n S dX9_init_151 rfl 0 rfl ?_
  refine y_getF S fp_RX9_43 rfl dX9_init_152 ?_
  refine y_alen1 (t0 := 2) S rfl (by decide) dX9_init_155 ?_
  refine y_icmp_ge (tgt := 178) S dX9_init_156 (by decide) (fun h => absurd h (by decide)) (fun _ => ?_)
  refine y_aload_n S dX9_init_159 rfl 0 rfl ?_
  refine y_getF S fp_RX9_43 rfl dX9_init_160 ?_
  refine y_iload_n S dX9_init_163 rfl 1 rfl ?_
  refine y_new S nf_RX9_17 (Nat.le_of_ble_eq_true rfl) (Nat.le_of_ble_eq_true rfl) dX9_init_164 (fun q66 => ?_)
  refine y_dup S dX9_init_167 ?_
  refine y_cN S ci_RX9_19 (KC_X4_init (X := X) (l := l)) ⟨rfl, rfl⟩ ⟨Nat.le_of_ble_eq_true rfl, Nat.le_of_ble_eq_true rfl⟩ ⟨Nat.le_of_ble_eq_true rfl, Nat.le_of_ble_eq_true rfl⟩ (by decide) dX9_init_168 (fun u67 => ?_)
  refine y_eq (ws' := (h, .inr (8, [.ref q0, .int 0, .int (-1), .ref q1, .ref q5, .ref q9, .ref q15, .ref q21, .ref q25, .int 0, .ref q31, .int 0, .ref q32, .ref q37, .ref q40, .ref q47, .ref q52])) :: (q31, .inl (X.2.1 2, 12, .inr (.inr (.inr (.inr (va_up (va_up (fun _ => none) 0 (some q58)) 1 (some q62))))))) :: ((((((((((((((([] ++ [(q0, .inl (X.2.1 0, 400, .inl (fun _ => 0)))]) ++ Wc_X4_init X q1 u2) ++ Wc_X4_init X q5 u6) ++ Wc_X2_init X q9 u10) ++ Wc_X2_init X q15 u16) ++ Wc_X4_init X q21 u22) ++ Wc_X2_init X q25 u26) ++ Wc_X6_init X q32 u33) ++ Wc_X5_init X q37 u38) ++ Wc_X0_init X q40 u41) ++ Wc_X1_init X q47 u48) ++ Wc_X3_init X q52 u53) ++ Wc_X4_init X q58 u59) ++ Wc_X4_init X q62 u63) ++ Wc_X4_init X q66 u67)) rfl ?_
  refine y_mast1 S (W1 := Wc_X4_init X q66 u67) rfl (by decide) dX9_init_171 ?_
  refine y_eq (ws' := (h, .inr (8, [.ref q0, .int 0, .int (-1), .ref q1, .ref q5, .ref q9, .ref q15, .ref q21, .ref q25, .int 0, .ref q31, .int 0, .ref q32, .ref q37, .ref q40, .ref q47, .ref q52])) :: (q31, .inl (X.2.1 2, 12, .inr (.inr (.inr (.inr (va_up (va_up (va_up (fun _ => none) 0 (some q58)) 1 (some q62)) 2 (some q66))))))) :: ((((((((((((((([] ++ [(q0, .inl (X.2.1 0, 400, .inl (fun _ => 0)))]) ++ Wc_X4_init X q1 u2) ++ Wc_X4_init X q5 u6) ++ Wc_X2_init X q9 u10) ++ Wc_X2_init X q15 u16) ++ Wc_X4_init X q21 u22) ++ Wc_X2_init X q25 u26) ++ Wc_X6_init X q32 u33) ++ Wc_X5_init X q37 u38) ++ Wc_X0_init X q40 u41) ++ Wc_X1_init X q47 u48) ++ Wc_X3_init X q52 u53) ++ Wc_X4_init X q58 u59) ++ Wc_X4_init X q62 u63) ++ Wc_X4_init X q66 u67)) rfl ?_
  refine y_iinc (v := 3) (lv' := [(0, .ref h), (1, .int 3)]) S [1, 0] 1 dX9_init_172 rfl (by decide) (by decide) rfl ?_
  refine y_goto (tgt := 150) S dX9_init_175 (by decide) ?_
  refine y_iload_n S dX9_init_150 rfl 1 rfl ?_
  refine y_aload_n S dX9_init_151 rfl 0 rfl ?_
  refine y_getF S fp_RX9_43 rfl dX9_init_152 ?_
  refine y_alen1 (t0 := 2) S rfl (by decide) dX9_init_155 ?_
  refine y_icmp_ge (tgt := 178) S dX9_init_156 (by decide) (fun h => absurd h (by decide)) (fun _ => ?_)
  refine y_aload_n S dX9_init_159 rfl 0 rfl ?_
  refine y_getF S fp_RX9_43 rfl dX9_init_160 ?_
  refine y_iload_n S dX9_init_163 rfl 1 rfl ?_
  refine y_new S nf_RX9_17 (Nat.le_of_ble_eq_true rfl) (Nat.le_of_ble_eq_true rfl) dX9_init_164 (fun q70 => ?_)
  refine y_dup S dX9_init_167 ?_
  refine y_cN S ci_RX9_19 (KC_X4_init (X := X) (l := l)) ⟨rfl, rfl⟩ ⟨Nat.le_of_ble_eq_true rfl, Nat.le_of_ble_eq_true rfl⟩ ⟨Nat.le_of_ble_eq_true rfl, Nat.le_of_ble_eq_true rfl⟩ (by decide) dX9_init_168 (fun u71 => ?_)
  refine y_eq (ws' := (h, .inr (8, [.ref q0, .int 0, .int (-1), .ref q1, .ref q5, .ref q9, .ref q15, .ref q21, .ref q25, .int 0, .ref q31, .int 0, .ref q32, .ref q37, .ref q40, .ref q47, .ref q52])) :: (q31, .inl (X.2.1 2, 12, .inr (.inr (.inr (.inr (va_up (va_up (va_up (fun _ => none) 0 (some q58)) 1 (some q62)) 2 (some q66))))))) :: (((((((((((((((([] ++ [(q0, .inl (X.2.1 0, 400, .inl (fun _ => 0)))]) ++ Wc_X4_init X q1 u2) ++ Wc_X4_init X q5 u6) ++ Wc_X2_init X q9 u10) ++ Wc_X2_init X q15 u16) ++ Wc_X4_init X q21 u22) ++ Wc_X2_init X q25 u26) ++ Wc_X6_init X q32 u33) ++ Wc_X5_init X q37 u38) ++ Wc_X0_init X q40 u41) ++ Wc_X1_init X q47 u48) ++ Wc_X3_init X q52 u53) ++ Wc_X4_init X q58 u59) ++ Wc_X4_init X q62 u63) ++ Wc_X4_init X q66 u67) ++ Wc_X4_init X q70 u71)) rfl ?_
  refine y_mast1 S (W1 := Wc_X4_init X q70 u71) rfl (by decide) dX9_init_171 ?_
  refine y_eq (ws' := (h, .inr (8, [.ref q0, .int 0, .int (-1), .ref q1, .ref q5, .ref q9, .ref q15, .ref q21, .ref q25, .int 0, .ref q31, .int 0, .ref q32, .ref q37, .ref q40, .ref q47, .ref q52])) :: (q31, .inl (X.2.1 2, 12, .inr (.inr (.inr (.inr (va_up (va_up (va_up (va_up (fun _ => none) 0 (some q58)) 1 (some q62)) 2 (some q66)) 3 (some q70))))))) :: (((((((((((((((([] ++ [(q0, .inl (X.2.1 0, 400, .inl (fun _ => 0)))]) ++ Wc_X4_init X q1 u2) ++ Wc_X4_init X q5 u6) ++ Wc_X2_init X q9 u10) ++ Wc_X2_init X q15 u16) ++ Wc_X4_init X q21 u22) ++ Wc_X2_init X q25 u26) ++ Wc_X6_init X q32 u33) ++ Wc_X5_init X q37 u38) ++ Wc_X0_init X q40 u41) ++ Wc_X1_init X q47 u48) ++ Wc_X3_init X q52 u53) ++ Wc_X4_init X q58 u59) ++ Wc_X4_init X q62 u63) ++ Wc_X4_init X q66 u67) ++ Wc_X4_init X q70 u71)) rfl ?_
  refine y_iinc (v := 4) (lv' := [(0, .ref h), (1, .int 4)]) S [1, 0] 1 dX9_init_172 rfl (by decide) (by decide) rfl ?_
  refine y_goto (tgt := 150) S dX9_init_175 (by decide) ?_
  refine y_iload_n S dX9_init_150 rfl 1 rfl ?_
  refine y_aload_n S dX9_init_151 rfl 0 rfl ?_
  refine y_getF S fp_RX9_43 rfl dX9_init_152 ?_
  refine y_alen1 (t0 := 2) S rfl (by decide) dX9_init_155 ?_
  refine y_icmp_ge (tgt := 178) S dX9_init_156 (by decide) (fun h => absurd h (by decide)) (fun _ => ?_)
  refine y_aload_n S dX9_init_159 rfl 0 rfl ?_
  refine y_getF S fp_RX9_43 rfl dX9_init_160 ?_
  refine y_iload_n S dX9_init_163 rfl 1 rfl ?_
  refine y_new S nf_RX9_17 (Nat.le_of_ble_eq_true rfl) (Nat.le_of_ble_eq_true rfl) dX9_init_164 (fun q74 => ?_)
  refine y_dup S dX9_init_167 ?_
  refine y_cN S ci_RX9_19 (KC_X4_init (X := X) (l := l)) ⟨rfl, rfl⟩ ⟨Nat.le_of_ble_eq_true rfl, Nat.le_of_ble_eq_true rfl⟩ ⟨Nat.le_of_ble_eq_true rfl, Nat.le_of_ble_eq_true rfl⟩ (by decide) dX9_init_168 (fun u75 => ?_)
  refine y_eq (ws' := (h, .inr (8, [.ref q0, .int 0, .int (-1), .ref q1, .ref q5, .ref q9, .ref q15, .ref q21, .ref q25, .int 0, .ref q31, .int 0, .ref q32, .ref q37, .ref q40, .ref q47, .ref q52])) :: (q31, .inl (X.2.1 2, 12, .inr (.inr (.inr (.inr (va_up (va_up (va_up (va_up (fun _ => none) 0 (some q58)) 1 (some q62)) 2 (some q66)) 3 (some q70))))))) :: ((((((((((((((((([] ++ [(q0, .inl (X.2.1 0, 400, .inl (fun _ => 0)))]) ++ Wc_X4_init X q1 u2) ++ Wc_X4_init X q5 u6) ++ Wc_X2_init X q9 u10) ++ Wc_X2_init X q15 u16) ++ Wc_X4_init X q21 u22) ++ Wc_X2_init X q25 u26) ++ Wc_X6_init X q32 u33) ++ Wc_X5_init X q37 u38) ++ Wc_X0_init X q40 u41) ++ Wc_X1_init X q47 u48) ++ Wc_X3_init X q52 u53) ++ Wc_X4_init X q58 u59) ++ Wc_X4_init X q62 u63) ++ Wc_X4_init X q66 u67) ++ Wc_X4_init X q70 u71) ++ Wc_X4_init X q74 u75)) rfl ?_
  refine y_mast1 S (W1 := Wc_X4_init X q74 u75) rfl (by decide) dX9_init_171 ?_
  refine y_eq (ws' := (h, .inr (8, [.ref q0, .int 0, .int (-1), .ref q1, .ref q5, .ref q9, .ref q15, .ref q21, .ref q25, .int 0, .ref q31, .int 0, .ref q32, .ref q37, .ref q40, .ref q47, .ref q52])) :: (q31, .inl (X.2.1 2, 12, .inr (.inr (.inr (.inr (va_up (va_up (va_up (va_up (va_up (fun _ => none) 0 (some q58)) 1 (some q62)) 2 (some q66)) 3 (some q70)) 4 (some q74))))))) :: ((((((((((((((((([] ++ [(q0, .inl (X.2.1 0, 400, .inl (fun _ => 0)))]) ++ Wc_X4_init X q1 u2) ++ Wc_X4_init X q5 u6) ++ Wc_X2_init X q9 u10) ++ Wc_X2_init X q15 u16) ++ Wc_X4_init X q21 u22) ++ Wc_X2_init X q25 u26) ++ Wc_X6_init X q32 u33) ++ Wc_X5_init X q37 u38) ++ Wc_X0_init X q40 u41) ++ Wc_X1_init X q47 u48) ++ Wc_X3_init X q52 u53) ++ Wc_X4_init X q58 u59) ++ Wc_X4_init X q62 u63) ++ Wc_X4_init X q66 u67) ++ Wc_X4_init X q70 u71) ++ Wc_X4_init X q74 u75)) rfl ?_
  refine y_iinc (v := 5) (lv' := [(0, .ref h), (1, .int 5)]) S [1, 0] 1 dX9_init_172 rfl (by decide) (by decide) rfl ?_
  refine y_goto (tgt := 150) S dX9_init_175 (by decide) ?_
  refine y_iload_n S dX9_init_150 rfl 1 rfl ?_
  refine y_aload_n S dX9_init_151 rfl 0 rfl ?_
  refine y_getF S fp_RX9_43 rfl dX9_init_152 ?_
  refine y_alen1 (t0 := 2) S rfl (by decide) dX9_init_155 ?_
  refine y_icmp_ge (tgt := 178) S dX9_init_156 (by decide) (fun h => absurd h (by decide)) (fun _ => ?_)
  refine y_aload_n S dX9_init_159 rfl 0 rfl ?_
  refine y_getF S fp_RX9_43 rfl dX9_init_160 ?_
  refine y_iload_n S dX9_init_163 rfl 1 rfl ?_
  refine y_new S nf_RX9_17 (Nat.le_of_ble_eq_true rfl) (Nat.le_of_ble_eq_true rfl) dX9_init_164 (fun q78 => ?_)
  refine y_dup S dX9_init_167 ?_
  refine y_cN S ci_RX9_19 (KC_X4_init (X := X) (l := l)) ⟨rfl, rfl⟩ ⟨Nat.le_of_ble_eq_true rfl, Nat.le_of_ble_eq_true rfl⟩ ⟨Nat.le_of_ble_eq_true rfl, Nat.le_of_ble_eq_true rfl⟩ (by decide) dX9_init_168 (fun u79 => ?_)
  refine y_eq (ws' := (h, .inr (8, [.ref q0, .int 0, .int (-1), .ref q1, .ref q5, .ref q9, .ref q15, .ref q21, .ref q25, .int 0, .ref q31, .int 0, .ref q32, .ref q37, .ref q40, .ref q47, .ref q52])) :: (q31, .inl (X.2.1 2, 12, .inr (.inr (.inr (.inr (va_up (va_up (va_up (va_up (va_up (fun _ => none) 0 (some q58)) 1 (some q62)) 2 (some q66)) 3 (some q70)) 4 (some q74))))))) :: (((((((((((((((((([] ++ [(q0, .inl (X.2.1 0, 400, .inl (fun _ => 0)))]) ++ Wc_X4_init X q1 u2) ++ Wc_X4_init X q5 u6) ++ Wc_X2_init X q9 u10) ++ Wc_X2_init X q15 u16) ++ Wc_X4_init X q21 u22) ++ Wc_X2_init X q25 u26) ++ Wc_X6_init X q32 u33) ++ Wc_X5_init X q37 u38) ++ Wc_X0_init X q40 u41) ++ Wc_X1_init X q47 u48) ++ Wc_X3_init X q52 u53) ++ Wc_X4_init X q58 u59) ++ Wc_X4_init X q62 u63) ++ Wc_X4_init X q66 u67) ++ Wc_X4_init X q70 u71) ++ Wc_X4_init X q74 u75) ++ Wc_X4_init X q78 u79)) rfl ?_
  refine y_mast1 S (W1 := Wc_X4_init X q78 u79) rfl (by decide) dX9_init_171 ?_
  refine y_eq (ws' := (h, .inr (8, [.ref q0, .int 0, .int (-1), .ref q1, .ref q5, .ref q9, .ref q15, .ref q21, .ref q25, .int 0, .ref q31, .int 0, .ref q32, .ref q37, .ref q40, .ref q47, .ref q52])) :: (q31, .inl (X.2.1 2, 12, .inr (.inr (.inr (.inr (va_up (va_up (va_up (va_up (va_up (va_up (fun _ => none) 0 (some q58)) 1 (some q62)) 2 (some q66)) 3 (some q70)) 4 (some q74)) 5 (some q78))))))) :: (((((((((((((((((([] ++ [(q0, .inl (X.2.1 0, 400, .inl (fun _ => 0)))]) ++ Wc_X4_init X q1 u2) ++ Wc_X4_init X q5 u6) ++ Wc_X2_init X q9 u10) ++ Wc_X2_init X q15 u16) ++ Wc_X4_init X q21 u22) ++ Wc_X2_init X q25 u26) ++ Wc_X6_init X q32 u33) ++ Wc_X5_init X q37 u38) ++ Wc_X0_init X q40 u41) ++ Wc_X1_init X q47 u48) ++ Wc_X3_init X q52 u53) ++ Wc_X4_init X q58 u59) ++ Wc_X4_init X q62 u63) ++ Wc_X4_init X q66 u67) ++ Wc_X4_init X q70 u71) ++ Wc_X4_init X q74 u75) ++ Wc_X4_init X q78 u79)) rfl ?_
  refine y_iinc (v := 6) (lv' := [(0, .ref h), (1, .int 6)]) S [1, 0] 1 dX9_init_172 rfl (by decide) (by decide) rfl ?_
  refine y_goto (tgt := 150) S dX9_init_175 (by decide) ?_
  refine y_iload_n S dX9_init_150 rfl 1 rfl ?_
  refine y_aload_n S dX9_init_151 rfl 0 rfl ?_
  refine y_getF S fp_RX9_43 rfl dX9_init_152 ?_
  refine y_alen1 (t0 := 2) S rfl (by decide) dX9_init_155 ?_
  refine y_icmp_ge (tgt := 178) S dX9_init_156 (by decide) (fun h => absurd h (by decide)) (fun _ => ?_)
  refine y_aload_n S dX9_init_159 rfl 0 rfl ?_
  refine y_getF S fp_RX9_43 rfl dX9_init_160 ?_
  refine y_iload_n S dX9_init_163 rfl 1 rfl ?_
  refine y_new S nf_RX9_17 (Nat.le_of_ble_eq_true rfl) (Nat.le_of_ble_eq_true rfl) dX9_init_164 (fun q82 => ?_)
  refine y_dup S dX9_init_167 ?_
  refine y_cN S ci_RX9_19 (KC_X4_init (X := X) (l := l)) ⟨rfl, rfl⟩ ⟨Nat.le_of_ble_eq_true rfl, Nat.le_of_ble_eq_true rfl⟩ ⟨Nat.le_of_ble_eq_true rfl, Nat.le_of_ble_eq_true rfl⟩ (by decide) dX9_init_168 (fun u83 => ?_)
  refine y_eq (ws' := (h, .inr (8, [.ref q0, .int 0, .int (-1), .ref q1, .ref q5, .ref q9, .ref q15, .ref q21, .ref q25, .int 0, .ref q31, .int 0, .ref q32, .ref q37, .ref q40, .ref q47, .ref q52])) :: (q31, .inl (X.2.1 2, 12, .inr (.inr (.inr (.inr (va_up (va_up (va_up (va_up (va_up (va_up (fun _ => none) 0 (some q58)) 1 (some q62)) 2 (some q66)) 3 (some q70)) 4 (some q74)) 5 (some q78))))))) :: ((((((((((((((((((([] ++ [(q0, .inl (X.2.1 0, 400, .inl (fun _ => 0)))]) ++ Wc_X4_init X q1 u2) ++ Wc_X4_init X q5 u6) ++ Wc_X2_init X q9 u10) ++ Wc_X2_init X q15 u16) ++ Wc_X4_init X q21 u22) ++ Wc_X2_init X q25 u26) ++ Wc_X6_init X q32 u33) ++ Wc_X5_init X q37 u38) ++ Wc_X0_init X q40 u41) ++ Wc_X1_init X q47 u48) ++ Wc_X3_init X q52 u53) ++ Wc_X4_init X q58 u59) ++ Wc_X4_init X q62 u63) ++ Wc_X4_init X q66 u67) ++ Wc_X4_init X q70 u71) ++ Wc_X4_init X q74 u75) ++ Wc_X4_init X q78 u79) ++ Wc_X4_init X q82 u83)) rfl ?_
  refine y_mast1 S (W1 := Wc_X4_init X q82 u83) rfl (by decide) dX9_init_171 ?_
  refine y_eq (ws' := (h, .inr (8, [.ref q0, .int 0, .int (-1), .ref q1, .ref q5, .ref q9, .ref q15, .ref q21, .ref q25, .int 0, .ref q31, .int 0, .ref q32, .ref q37, .ref q40, .ref q47, .ref q52])) :: (q31, .inl (X.2.1 2, 12, .inr (.inr (.inr (.inr (va_up (va_up (va_up (va_up (va_up (va_up (va_up (fun _ => none) 0 (some q58)) 1 (some q62)) 2 (some q66)) 3 (some q70)) 4 (some q74)) 5 (some q78)) 6 (some q82))))))) :: ((((((((((((((((((([] ++ [(q0, .inl (X.2.1 0, 400, .inl (fun _ => 0)))]) ++ Wc_X4_init X q1 u2) ++ Wc_X4_init X q5 u6) ++ Wc_X2_init X q9 u10) ++ Wc_X2_init X q15 u16) ++ Wc_X4_init X q21 u22) ++ Wc_X2_init X q25 u26) ++ Wc_X6_init X q32 u33) ++ Wc_X5_init X q37 u38) ++ Wc_X0_init X q40 u41) ++ Wc_X1_init X q47 u48) ++ Wc_X3_init X q52 u53) ++ Wc_X4_init X q58 u59) ++ Wc_X4_init X q62 u63) ++ Wc_X4_init X q66 u67) ++ Wc_X4_init X q70 u71) ++ Wc_X4_init X q74 u75) ++ Wc_X4_init X q78 u79) ++ Wc_X4_init X q82 u83)) rfl ?_
  refine y_iinc (v := 7) (lv' := [(0, .ref h), (1, .int 7)]) S [1, 0] 1 dX9_init_172 rfl (by decide) (by decide) rfl ?_
  refine y_goto (tgt := 150) S dX9_init_175 (by decide) ?_
  refine y_iload_n S dX9_init_150 rfl 1 rfl ?_
  refine y_aload_n S dX9_init_151 rfl 0 rfl ?_
  refine y_getF S fp_RX9_43 rfl dX9_init_152 ?_
  refine y_alen1 (t0 := 2) S rfl (by decide) dX9_init_155 ?_
  refine y_icmp_ge (tgt := 178) S dX9_init_156 (by decide) (fun h => absurd h (by decide)) (fun _ => ?_)
  refine y_aload_n S dX9_init_159 rfl 0 rfl ?_
  refine y_getF S fp_RX9_43 rfl dX9_init_160 ?_
  refine y_iload_n S dX9_init_163 rfl 1 rfl ?_
  refine y_new S nf_RX9_17 (Nat.le_of_ble_eq_true rfl) (Nat.le_of_ble_eq_true rfl) dX9_init_164 (fun q86 => ?_)
  refine y_dup S dX9_init_167 ?_
  refine y_cN S ci_RX9_19 (KC_X4_init (X := X) (l := l)) ⟨rfl, rfl⟩ ⟨Nat.le_of_ble_eq_true rfl, Nat.le_of_ble_eq_true rfl⟩ ⟨Nat.le_of_ble_eq_true rfl, Nat.le_of_ble_eq_true rfl⟩ (by decide) dX9_init_168 (fun u87 => ?_)
  refine y_eq (ws' := (h, .inr (8, [.ref q0, .int 0, .int (-1), .ref q1, .ref q5, .ref q9, .ref q15, .ref q21, .ref q25, .int 0, .ref q31, .int 0, .ref q32, .ref q37, .ref q40, .ref q47, .ref q52])) :: (q31, .inl (X.2.1 2, 12, .inr (.inr (.inr (.inr (va_up (va_up (va_up (va_up (va_up (va_up (va_up (fun _ => none) 0 (some q58)) 1 (some q62)) 2 (some q66)) 3 (some q70)) 4 (some q74)) 5 (some q78)) 6 (some q82))))))) :: (((((((((((((((((((([] ++ [(q0, .inl (X.2.1 0, 400, .inl (fun _ => 0)))]) ++ Wc_X4_init X q1 u2) ++ Wc_X4_init X q5 u6) ++ Wc_X2_init X q9 u10) ++ Wc_X2_init X q15 u16) ++ Wc_X4_init X q21 u22) ++ Wc_X2_init X q25 u26) ++ Wc_X6_init X q32 u33) ++ Wc_X5_init X q37 u38) ++ Wc_X0_init X q40 u41) ++ Wc_X1_init X q47 u48) ++ Wc_X3_init X q52 u53) ++ Wc_X4_init X q58 u59) ++ Wc_X4_init X q62 u63) ++ Wc_X4_init X q66 u67) ++ Wc_X4_init X q70 u71) ++ Wc_X4_init X q74 u75) ++ Wc_X4_init X q78 u79) ++ Wc_X4_init X q82 u83) ++ Wc_X4_init X q86 u87)) rfl ?_
  refine y_mast1 S (W1 := Wc_X4_init X q86 u87) rfl (by decide) dX9_init_171 ?_
  refine y_eq (ws' := (h, .inr (8, [.ref q0, .int 0, .int (-1), .ref q1, .ref q5, .ref q9, .ref q15, .ref q21, .ref q25, .int 0, .ref q31, .int 0, .ref q32, .ref q37, .ref q40, .ref q47, .ref q52])) :: (q31, .inl (X.2.1 2, 12, .inr (.inr (.inr (.inr (va_up (va_up (va_up (va_up (va_up (va_up (va_up (va_up (fun _ => none) 0 (some q58)) 1 (some q62)) 2 (some q66)) 3 (some q70)) 4 (some q74)) 5 (some q78)) 6 (some q82)) 7 (some q86))))))) :: (((((((((((((((((((([] ++ [(q0, .inl (X.2.1 0, 400, .inl (fun _ => 0)))]) ++ Wc_X4_init X q1 u2) ++ Wc_X4_init X q5 u6) ++ Wc_X2_init X q9 u10) ++ Wc_X2_init X q15 u16) ++ Wc_X4_init X q21 u22) ++ Wc_X2_init X q25 u26) ++ Wc_X6_init X q32 u33) ++ Wc_X5_init X q37 u38) ++ Wc_X0_init X q40 u41) ++ Wc_X1_init X q47 u48) ++ Wc_X3_init X q52 u53) ++ Wc_X4_init X q58 u59) ++ Wc_X4_init X q62 u63) ++ Wc_X4_init X q66 u67) ++ Wc_X4_init X q70 u71) ++ Wc_X4_init X q74 u75) ++ Wc_X4_init X q78 u79) ++ Wc_X4_init X q82 u83) ++ Wc_X4_init X q86 u87)) rfl ?_
  refine y_iinc (v := 8) (lv' := [(0, .ref h), (1, .int 8)]) S [1, 0] 1 dX9_init_172 rfl (by decide) (by decide) rfl ?_
  refine y_goto (tgt := 150) S dX9_init_175 (by decide) ?_
  refine y_iload_n S dX9_init_150 rfl 1 rfl ?_
  refine y_aload_n S dX9_init_151 rfl 0 rfl ?_
  refine y_getF S fp_RX9_43 rfl dX9_init_152 ?_
  refine y_alen1 (t0 := 2) S rfl (by decide) dX9_init_155 ?_
  refine y_icmp_ge (tgt := 178) S dX9_init_156 (by decide) (fun h => absurd h (by decide)) (fun _ => ?_)
  refine y_aload_n S dX9_init_159 rfl 0 rfl ?_
  refine y_getF S fp_RX9_43 rfl dX9_init_160 ?_
  refine y_iload_n S dX9_init_163 rfl 1 rfl ?_
  refine y_new S nf_RX9_17 (Nat.le_of_ble_eq_true rfl) (Nat.le_of_ble_eq_true rfl) dX9_init_164 (fun q90 => ?_)
  refine y_dup S dX9_init_167 ?_
  refine y_cN S ci_RX9_19 (KC_X4_init (X := X) (l := l)) ⟨rfl, rfl⟩ ⟨Nat.le_of_ble_eq_true rfl, Nat.le_of_ble_eq_true rfl⟩ ⟨Nat.le_of_ble_eq_true rfl, Nat.le_of_ble_eq_true rfl⟩ (by decide) dX9_init_168 (fun u91 => ?_)
  refine y_eq (ws' := (h, .inr (8, [.ref q0, .int 0, .int (-1), .ref q1, .ref q5, .ref q9, .ref q15, .ref q21, .ref q25, .int 0, .ref q31, .int 0, .ref q32, .ref q37, .ref q40, .ref q47, .ref q52])) :: (q31, .inl (X.2.1 2, 12, .inr (.inr (.inr (.inr (va_up (va_up (va_up (va_up (va_up (va_up (va_up (va_up (fun _ => none) 0 (some q58)) 1 (some q62)) 2 (some q66)) 3 (some q70)) 4 (some q74)) 5 (some q78)) 6 (some q82)) 7 (some q86))))))) :: ((((((((((((((((((((([] ++ [(q0, .inl (X.2.1 0, 400, .inl (fun _ => 0)))]) ++ Wc_X4_init X q1 u2) ++ Wc_X4_init X q5 u6) ++ Wc_X2_init X q9 u10) ++ Wc_X2_init X q15 u16) ++ Wc_X4_init X q21 u22) ++ Wc_X2_init X q25 u26) ++ Wc_X6_init X q32 u33) ++ Wc_X5_init X q37 u38) ++ Wc_X0_init X q40 u41) ++ Wc_X1_init X q47 u48) ++ Wc_X3_init X q52 u53) ++ Wc_X4_init X q58 u59) ++ Wc_X4_init X q62 u63) ++ Wc_X4_init X q66 u67) ++ Wc_X4_init X q70 u71) ++ Wc_X4_init X q74 u75) ++ Wc_X4_init X q78 u79) ++ Wc_X4_init X q82 u83) ++ Wc_X4_init X q86 u87) ++ Wc_X4_init X q90 u91)) rfl ?_
  refine y_mast1 S (W1 := Wc_X4_init X q90 u91) rfl (by decide) dX9_init_171 ?_
  refine y_eq (ws' := (h, .inr (8, [.ref q0, .int 0, .int (-1), .ref q1, .ref q5, .ref q9, .ref q15, .ref q21, .ref q25, .int 0, .ref q31, .int 0, .ref q32, .ref q37, .ref q40, .ref q47, .ref q52])) :: (q31, .inl (X.2.1 2, 12, .inr (.inr (.inr (.inr (va_up (va_up (va_up (va_up (va_up (va_up (va_up (va_up (va_up (fun _ => none) 0 (some q58)) 1 (some q62)) 2 (some q66)) 3 (some q70)) 4 (some q74)) 5 (some q78)) 6 (some q82)) 7 (some q86)) 8 (some q90))))))) :: ((((((((((((((((((((([] ++ [(q0, .inl (X.2.1 0, 400, .inl (fun _ => 0)))]) ++ Wc_X4_init X q1 u2) ++ Wc_X4_init X q5 u6) ++ Wc_X2_init X q9 u10) ++ Wc_X2_init X q15 u16) ++ Wc_X4_init X q21 u22) ++ Wc_X2_init X q25 u26) ++ Wc_X6_init X q32 u33) ++ Wc_X5_init X q37 u38) ++ Wc_X0_init X q40 u41) ++ Wc_X1_init X q47 u48) ++ Wc_X3_init X q52 u53) ++ Wc_X4_init X q58 u59) ++ Wc_X4_init X q62 u63) ++ Wc_X4_init X q66 u67) ++ Wc_X4_init X q70 u71) ++ Wc_X4_init X q74 u75) ++ Wc_X4_init X q78 u79) ++ Wc_X4_init X q82 u83) ++ Wc_X4_init X q86 u87) ++ Wc_X4_init X q90 u91)) rfl ?_
  refine y_iinc (v := 9) (lv' := [(0, .ref h), (1, .int 9)]) S [1, 0] 1 dX9_init_172 rfl (by decide) (by decide) rfl ?_
  refine y_goto (tgt := 150) S dX9_init_175 (by decide) ?_
  refine y_iload_n S dX9_init_150 rfl 1 rfl ?_
  refine y_aload_n S dX9_init_151 rfl 0 rfl ?_
  refine y_getF S fp_RX9_43 rfl dX9_init_152 ?_
  refine y_alen1 (t0 := 2) S rfl (by decide) dX9_init_155 ?_
  refine y_icmp_ge (tgt := 178) S dX9_init_156 (by decide) (fun h => absurd h (by decide)) (fun _ => ?_)
  refine y_aload_n S dX9_init_159 rfl 0 rfl ?_
  refine y_getF S fp_RX9_43 rfl dX9_init_160 ?_
  refine y_iload_n S dX9_init_163 rfl 1 rfl ?_
  refine y_new S nf_RX9_17 (Nat.le_of_ble_eq_true rfl) (Nat.le_of_ble_eq_true rfl) dX9_init_164 (fun q94 => ?_)
  refine y_dup S dX9_init_167 ?_
  refine y_cN S ci_RX9_19 (KC_X4_init (X := X) (l := l)) ⟨rfl, rfl⟩ ⟨Nat.le_of_ble_eq_true rfl, Nat.le_of_ble_eq_true rfl⟩ ⟨Nat.le_of_ble_eq_true rfl, Nat.le_of_ble_eq_true rfl⟩ (by decide) dX9_init_168 (fun u95 => ?_)
  refine y_eq (ws' := (h, .inr (8, [.ref q0, .int 0, .int (-1), .ref q1, .ref q5, .ref q9, .ref q15, .ref q21, .ref q25, .int 0, .ref q31, .int 0, .ref q32, .ref q37, .ref q40, .ref q47, .ref q52])) :: (q31, .inl (X.2.1 2, 12, .inr (.inr (.inr (.inr (va_up (va_up (va_up (va_up (va_up (va_up (va_up (va_up (va_up (fun _ => none) 0 (some q58)) 1 (some q62)) 2 (some q66)) 3 (some q70)) 4 (some q74)) 5 (some q78)) 6 (some q82)) 7 (some q86)) 8 (some q90))))))) :: (((((((((((((((((((((([] ++ [(q0, .inl (X.2.1 0, 400, .inl (fun _ => 0)))]) ++ Wc_X4_init X q1 u2) ++ Wc_X4_init X q5 u6) ++ Wc_X2_init X q9 u10) ++ Wc_X2_init X q15 u16) ++ Wc_X4_init X q21 u22) ++ Wc_X2_init X q25 u26) ++ Wc_X6_init X q32 u33) ++ Wc_X5_init X q37 u38) ++ Wc_X0_init X q40 u41) ++ Wc_X1_init X q47 u48) ++ Wc_X3_init X q52 u53) ++ Wc_X4_init X q58 u59) ++ Wc_X4_init X q62 u63) ++ Wc_X4_init X q66 u67) ++ Wc_X4_init X q70 u71) ++ Wc_X4_init X q74 u75) ++ Wc_X4_init X q78 u79) ++ Wc_X4_init X q82 u83) ++ Wc_X4_init X q86 u87) ++ Wc_X4_init X q90 u91) ++ Wc_X4_init X q94 u95)) rfl ?_
  refine y_mast1 S (W1 := Wc_X4_init X q94 u95) rfl (by decide) dX9_init_171 ?_
  refine y_eq (ws' := (h, .inr (8, [.ref q0, .int 0, .int (-1), .ref q1, .ref q5, .ref q9, .ref q15, .ref q21, .ref q25, .int 0, .ref q31, .int 0, .ref q32, .ref q37, .ref q40, .ref q47, .ref q52])) :: (q31, .inl (X.2.1 2, 12, .inr (.inr (.inr (.inr (va_up (va_up (va_up (va_up (va_up (va_up (va_up (va_up (va_up (va_up (fun _ => none) 0 (some q58)) 1 (some q62)) 2 (some q66)) 3 (some q70)) 4 (some q74)) 5 (some q78)) 6 (some q82)) 7 (some q86)) 8 (some q90)) 9 (some q94))))))) :: (((((((((((((((((((((([] ++ [(q0, .inl (X.2.1 0, 400, .inl (fun _ => 0)))]) ++ Wc_X4_init X q1 u2) ++ Wc_X4_init X q5 u6) ++ Wc_X2_init X q9 u10) ++ Wc_X2_init X q15 u16) ++ Wc_X4_init X q21 u22) ++ Wc_X2_init X q25 u26) ++ Wc_X6_init X q32 u33) ++ Wc_X5_init X q37 u38) ++ Wc_X0_init X q40 u41) ++ Wc_X1_init X q47 u48) ++ Wc_X3_init X q52 u53) ++ Wc_X4_init X q58 u59) ++ Wc_X4_init X q62 u63) ++ Wc_X4_init X q66 u67) ++ Wc_X4_init X q70 u71) ++ Wc_X4_init X q74 u75) ++ Wc_X4_init X q78 u79) ++ Wc_X4_init X q82 u83) ++ Wc_X4_init X q86 u87) ++ Wc_X4_init X q90 u91) ++ Wc_X4_init X q94 u95)) rfl ?_
  refine y_iinc (v := 10) (lv' := [(0, .ref h), (1, .int 10)]) S [1, 0] 1 dX9_init_172 rfl (by decide) (by decide) rfl ?_
  refine y_goto (tgt := 150) S dX9_init_175 (by decide) ?_
  refine y_iload_n S dX9_init_150 rfl 1 rfl ?_
  refine y_aload_n S dX9_init_151 rfl 0 rfl ?_
  refine y_getF S fp_RX9_43 rfl dX9_init_152 ?_
  refine y_alen1 (t0 := 2) S rfl (by decide) dX9_init_155 ?_
  refine y_icmp_ge (tgt := 178) S dX9_init_156 (by decide) (fun h => absurd h (by decide)) (fun _ => ?_)
  refine y_aload_n S dX9_init_159 rfl 0 rfl ?_
  refine y_getF S fp_RX9_43 rfl dX9_init_160 ?_
  refine y_iload_n S dX9_init_163 rfl 1 rfl ?_
  refine y_new S nf_RX9_17 (Nat.le_of_ble_eq_true rfl) (Nat.le_of_ble_eq_true rfl) dX9_init_164 (fun q98 => ?_)
  refine y_dup S dX9_init_167 ?_
  refine y_cN S ci_RX9_19 (KC_X4_init (X := X) (l := l)) ⟨rfl, rfl⟩ ⟨Nat.le_of_ble_eq_true rfl, Nat.le_of_ble_eq_true rfl⟩ ⟨Nat.le_of_ble_eq_true rfl, Nat.le_of_ble_eq_true rfl⟩ (by decide) dX9_init_168 (fun u99 => ?_)
  refine y_eq (ws' := (h, .inr (8, [.ref q0, .int 0, .int (-1), .ref q1, .ref q5, .ref q9, .ref q15, .ref q21, .ref q25, .int 0, .ref q31, .int 0, .ref q32, .ref q37, .ref q40, .ref q47, .ref q52])) :: (q31, .inl (X.2.1 2, 12, .inr (.inr (.inr (.inr (va_up (va_up (va_up (va_up (va_up (va_up (va_up (va_up (va_up (va_up (fun _ => none) 0 (some q58)) 1 (some q62)) 2 (some q66)) 3 (some q70)) 4 (some q74)) 5 (some q78)) 6 (some q82)) 7 (some q86)) 8 (some q90)) 9 (some q94))))))) :: ((((((((((((((((((((((([] ++ [(q0, .inl (X.2.1 0, 400, .inl (fun _ => 0)))]) ++ Wc_X4_init X q1 u2) ++ Wc_X4_init X q5 u6) ++ Wc_X2_init X q9 u10) ++ Wc_X2_init X q15 u16) ++ Wc_X4_init X q21 u22) ++ Wc_X2_init X q25 u26) ++ Wc_X6_init X q32 u33) ++ Wc_X5_init X q37 u38) ++ Wc_X0_init X q40 u41) ++ Wc_X1_init X q47 u48) ++ Wc_X3_init X q52 u53) ++ Wc_X4_init X q58 u59) ++ Wc_X4_init X q62 u63) ++ Wc_X4_init X q66 u67) ++ Wc_X4_init X q70 u71) ++ Wc_X4_init X q74 u75) ++ Wc_X4_init X q78 u79) ++ Wc_X4_init X q82 u83) ++ Wc_X4_init X q86 u87) ++ Wc_X4_init X q90 u91) ++ Wc_X4_init X q94 u95) ++ Wc_X4_init X q98 u99)) rfl ?_
  refine y_mast1 S (W1 := Wc_X4_init X q98 u99) rfl (by decide) dX9_init_171 ?_
  refine y_eq (ws' := (h, .inr (8, [.ref q0, .int 0, .int (-1), .ref q1, .ref q5, .ref q9, .ref q15, .ref q21, .ref q25, .int 0, .ref q31, .int 0, .ref q32, .ref q37, .ref q40, .ref q47, .ref q52])) :: (q31, .inl (X.2.1 2, 12, .inr (.inr (.inr (.inr (va_up (va_up (va_up (va_up (va_up (va_up (va_up (va_up (va_up (va_up (va_up (fun _ => none) 0 (some q58)) 1 (some q62)) 2 (some q66)) 3 (some q70)) 4 (some q74)) 5 (some q78)) 6 (some q82)) 7 (some q86)) 8 (some q90)) 9 (some q94)) 10 (some q98))))))) :: ((((((((((((((((((((((([] ++ [(q0, .inl (X.2.1 0, 400, .inl (fun _ => 0)))]) ++ Wc_X4_init X q1 u2) ++ Wc_X4_init X q5 u6) ++ Wc_X2_init X q9 u10) ++ Wc_X2_init X q15 u16) ++ Wc_X4_init X q21 u22) ++ Wc_X2_init X q25 u26) ++ Wc_X6_init X q32 u33) ++ Wc_X5_init X q37 u38) ++ Wc_X0_init X q40 u41) ++ Wc_X1_init X q47 u48) ++ Wc_X3_init X q52 u53) ++ Wc_X4_init X q58 u59) ++ Wc_X4_init X q62 u63) ++ Wc_X4_init X q66 u67) ++ Wc_X4_init X q70 u71) ++ Wc_X4_init X q74 u75) ++ Wc_X4_init X q78 u79) ++ Wc_X4_init X q82 u83) ++ Wc_X4_init X q86 u87) ++ Wc_X4_init X q90 u91) ++ Wc_X4_init X q94 u95) ++ Wc_X4_init X q98 u99)) rfl ?_
  refine y_iinc (v := 11) (lv' := [(0, .ref h), (1, .int 11)]) S [1, 0] 1 dX9_init_172 rfl (by decide) (by decide) rfl ?_
  refine y_goto (tgt := 150) S dX9_init_175 (by decide) ?_
  refine y_iload_n S dX9_init_150 rfl 1 rfl ?_
  refine y_aload_n S dX9_init_151 rfl 0 rfl ?_
  refine y_getF S fp_RX9_43 rfl dX9_init_152 ?_
  refine y_alen1 (t0 := 2) S rfl (by decide) dX9_init_155 ?_
  refine y_icmp_ge (tgt := 178) S dX9_init_156 (by decide) (fun h => absurd h (by decide)) (fun _ => ?_)
  refine y_aload_n S dX9_init_159 rfl 0 rfl ?_
  refine y_getF S fp_RX9_43 rfl dX9_init_160 ?_
  refine y_iload_n S dX9_init_163 rfl 1 rfl ?_
  refine y_new S nf_RX9_17 (Nat.le_of_ble_eq_true rfl) (Nat.le_of_ble_eq_true rfl) dX9_init_164 (fun q102 => ?_)
  refine y_dup S dX9_init_167 ?_
  refine y_cN S ci_RX9_19 (KC_X4_init (X := X) (l := l)) ⟨rfl, rfl⟩ ⟨Nat.le_of_ble_eq_true rfl, Nat.le_of_ble_eq_true rfl⟩ ⟨Nat.le_of_ble_eq_true rfl, Nat.le_of_ble_eq_true rfl⟩ (by decide) dX9_init_168 (fun u103 => ?_)
  refine y_eq (ws' := (h, .inr (8, [.ref q0, .int 0, .int (-1), .ref q1, .ref q5, .ref q9, .ref q15, .ref q21, .ref q25, .int 0, .ref q31, .int 0, .ref q32, .ref q37, .ref q40, .ref q47, .ref q52])) :: (q31, .inl (X.2.1 2, 12, .inr (.inr (.inr (.inr (va_up (va_up (va_up (va_up (va_up (va_up (va_up (va_up (va_up (va_up (va_up (fun _ => none) 0 (some q58)) 1 (some q62)) 2 (some q66)) 3 (some q70)) 4 (some q74)) 5 (some q78)) 6 (some q82)) 7 (some q86)) 8 (some q90)) 9 (some q94)) 10 (some q98))))))) :: (((((((((((((((((((((((([] ++ [(q0, .inl (X.2.1 0, 400, .inl (fun _ => 0)))]) ++ Wc_X4_init X q1 u2) ++ Wc_X4_init X q5 u6) ++ Wc_X2_init X q9 u10) ++ Wc_X2_init X q15 u16) ++ Wc_X4_init X q21 u22) ++ Wc_X2_init X q25 u26) ++ Wc_X6_init X q32 u33) ++ Wc_X5_init X q37 u38) ++ Wc_X0_init X q40 u41) ++ Wc_X1_init X q47 u48) ++ Wc_X3_init X q52 u53) ++ Wc_X4_init X q58 u59) ++ Wc_X4_init X q62 u63) ++ Wc_X4_init X q66 u67) ++ Wc_X4_init X q70 u71) ++ Wc_X4_init X q74 u75) ++ Wc_X4_init X q78 u79) ++ Wc_X4_init X q82 u83) ++ Wc_X4_init X q86 u87) ++ Wc_X4_init X q90 u91) ++ Wc_X4_init X q94 u95) ++ Wc_X4_init X q98 u99) ++ Wc_X4_init X q102 u103)) rfl ?_
  refine y_mast1 S (W1 := Wc_X4_init X q102 u103) rfl (by decide) dX9_init_171 ?_
  refine y_eq (ws' := (h, .inr (8, [.ref q0, .int 0, .int (-1), .ref q1, .ref q5, .ref q9, .ref q15, .ref q21, .ref q25, .int 0, .ref q31, .int 0, .ref q32, .ref q37, .ref q40, .ref q47, .ref q52])) :: (q31, .inl (X.2.1 2, 12, .inr (.inr (.inr (.inr (va_up (va_up (va_up (va_up (va_up (va_up (va_up (va_up (va_up (va_up (va_up (va_up (fun _ => none) 0 (some q58)) 1 (some q62)) 2 (some q66)) 3 (some q70)) 4 (some q74)) 5 (some q78)) 6 (some q82)) 7 (some q86)) 8 (some q90)) 9 (some q94)) 10 (some q98)) 11 (some q102))))))) :: (((((((((((((((((((((((([] ++ [(q0, .inl (X.2.1 0, 400, .inl (fun _ => 0)))]) ++ Wc_X4_init X q1 u2) ++ Wc_X4_init X q5 u6) ++ Wc_X2_init X q9 u10) ++ Wc_X2_init X q15 u16) ++ Wc_X4_init X q21 u22) ++ Wc_X2_init X q25 u26) ++ Wc_X6_init X q32 u33) ++ Wc_X5_init X q37 u38) ++ Wc_X0_init X q40 u41) ++ Wc_X1_init X q47 u48) ++ Wc_X3_init X q52 u53) ++ Wc_X4_init X q58 u59) ++ Wc_X4_init X q62 u63) ++ Wc_X4_init X q66 u67) ++ Wc_X4_init X q70 u71) ++ Wc_X4_init X q74 u75) ++ Wc_X4_init X q78 u79) ++ Wc_X4_init X q82 u83) ++ Wc_X4_init X q86 u87) ++ Wc_X4_init X q90 u91) ++ Wc_X4_init X q94 u95) ++ Wc_X4_init X q98 u99) ++ Wc_X4_init X q102 u103)) rfl ?_
  refine y_iinc (v := 12) (lv' := [(0, .ref h), (1, .int 12)]) S [1, 0] 1 dX9_init_172 rfl (by decide) (by decide) rfl ?_
  refine y_goto (tgt := 150) S dX9_init_175 (by decide) ?_
  refine y_iload_n S dX9_init_150 rfl 1 rfl ?_
  refine y_aload_n S dX9_init_151 rfl 0 rfl ?_
  refine y_getF S fp_RX9_43 rfl dX9_init_152 ?_
  refine y_alen1 (t0 := 2) S rfl (by decide) dX9_init_155 ?_
  refine y_icmp_ge (tgt := 178) S dX9_init_156 (by decide) (fun _ => ?_) (fun h => absurd (by decide) h)
  exact y_vret S hr hlk (fun i => [q0, q1, (u2 0), (u2 1), (u2 2), q5, (u6 0), (u6 1), (u6 2), q9, (u10 0), (u10 1), (u10 2), (u10 3), (u10 4), q15, (u16 0), (u16 1), (u16 2), (u16 3), (u16 4), q21, (u22 0), (u22 1), (u22 2), q25, (u26 0), (u26 1), (u26 2), (u26 3), (u26 4), q31, q32, (u33 0), (u33 1), (u33 2), (u33 3), q37, (u38 0), (u38 1), q40, (u41 0), (u41 1), (u41 2), (u41 3), (u41 4), (u41 5), q47, (u48 0), (u48 1), (u48 2), (u48 3), q52, (u53 0), (u53 1), (u53 2), (u53 3), (u53 4), q58, (u59 0), (u59 1), (u59 2), q62, (u63 0), (u63 1), (u63 2), q66, (u67 0), (u67 1), (u67 2), q70, (u71 0), (u71 1), (u71 2), q74, (u75 0), (u75 1), (u75 2), q78, (u79 0), (u79 1), (u79 2), q82, (u83 0), (u83 1), (u83 2), q86, (u87 0), (u87 1), (u87 2), q90, (u91 0), (u91 1), (u91 2), q94, (u95 0), (u95 1), (u95 2), q98, (u99 0), (u99 1), (u99 2), q102, (u103 0), (u103 1), (u103 2)].getD i 0) rfl (Nat.le_of_ble_eq_true rfl) (Nat.le_of_ble_eq_true rfl) dX9_init_178
