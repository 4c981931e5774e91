/-! objects, fields, calls: what the tables say of each, by places in tables_1 (printed by tools/facts.py) -/
theorem mt_all {z : Cond} (h : z ∈ tables_1) : z ∈ lw_tbl := List.mem_append_right _ h
theorem mt_1 {z : Cond} {i : Nat} (h : tables_1_1[i]? = some z) : z ∈ lw_tbl := mt_all (show z ∈ tables_1 from List.mem_append_left _ (List.mem_of_getElem? h))
theorem mt_2 {z : Cond} {i : Nat} (h : tables_1_2[i]? = some z) : z ∈ lw_tbl := mt_all (show z ∈ tables_1 from List.mem_append_right _ (List.mem_append_left _ (List.mem_of_getElem? h)))
theorem mt_3 {z : Cond} {i : Nat} (h : tables_1_3[i]? = some z) : z ∈ lw_tbl := mt_all (show z ∈ tables_1 from List.mem_append_right _ (List.mem_append_right _ (List.mem_append_left _ (List.mem_of_getElem? h))))
theorem mt_4 {z : Cond} {i : Nat} (h : tables_1_4[i]? = some z) : z ∈ lw_tbl := mt_all (show z ∈ tables_1 from List.mem_append_right _ (List.mem_append_right _ (List.mem_append_right _ (List.mem_append_left _ (List.mem_of_getElem? h)))))
theorem mt_5 {z : Cond} {i : Nat} (h : tables_1_5[i]? = some z) : z ∈ lw_tbl := mt_all (show z ∈ tables_1 from List.mem_append_right _ (List.mem_append_right _ (List.mem_append_right _ (List.mem_append_right _ (List.mem_append_left _ (List.mem_of_getElem? h))))))
theorem mt_6 {z : Cond} {i : Nat} (h : tables_1_6[i]? = some z) : z ∈ lw_tbl := mt_all (show z ∈ tables_1 from List.mem_append_right _ (List.mem_append_right _ (List.mem_append_right _ (List.mem_append_right _ (List.mem_append_right _ (List.mem_append_left _ (List.mem_of_getElem? h)))))))
theorem mt_7 {z : Cond} {i : Nat} (h : tables_1_7[i]? = some z) : z ∈ lw_tbl := mt_all (show z ∈ tables_1 from List.mem_append_right _ (List.mem_append_right _ (List.mem_append_right _ (List.mem_append_right _ (List.mem_append_right _ (List.mem_append_right _ (List.mem_append_left _ (List.mem_of_getElem? h))))))))
theorem mt_8 {z : Cond} {i : Nat} (h : tables_1_8[i]? = some z) : z ∈ lw_tbl := mt_all (show z ∈ tables_1 from List.mem_append_right _ (List.mem_append_right _ (List.mem_append_right _ (List.mem_append_right _ (List.mem_append_right _ (List.mem_append_right _ (List.mem_append_right _ (List.mem_of_getElem? h))))))))
theorem ms_of {z : Cond} {i : Nat} (h : (k2_sels lw_privs)[i]? = some z) : z ∈ lw_tbl := List.mem_append_left _ (List.mem_of_getElem? h)
theorem ok_1 : OK 0 1 8 := ok_of (by decide +kernel)
theorem ok_2 : OK 0 2 30 := ok_of (by decide +kernel)
theorem ok_3 : OK 0 3 32 := ok_of (by decide +kernel)
theorem ok_4 : OK 0 4 4 := ok_of (by decide +kernel)
theorem ok_5 : OK 0 5 30 := ok_of (by decide +kernel)
theorem ok_6 : OK 0 6 30 := ok_of (by decide +kernel)
theorem ok_7 : OK 0 7 30 := ok_of (by decide +kernel)
theorem ok_8 : OK 0 8 4 := ok_of (by decide +kernel)
theorem ok_9 : OK 0 9 30 := ok_of (by decide +kernel)
theorem ok_10 : OK 0 10 30 := ok_of (by decide +kernel)
theorem ok_11 : OK 0 11 30 := ok_of (by decide +kernel)
theorem ok_12 : OK 0 12 4 := ok_of (by decide +kernel)
theorem ok_13 : OK 0 13 30 := ok_of (by decide +kernel)
theorem ok_14 : OK 0 14 30 := ok_of (by decide +kernel)
theorem ok_15 : OK 0 15 30 := ok_of (by decide +kernel)
theorem ok_16 : OK 0 16 4 := ok_of (by decide +kernel)
theorem ok_17 : OK 0 17 30 := ok_of (by decide +kernel)
theorem ok_18 : OK 0 18 30 := ok_of (by decide +kernel)
theorem ok_19 : OK 0 19 30 := ok_of (by decide +kernel)
theorem ok_20 : OK 0 20 4 := ok_of (by decide +kernel)
theorem ok_21 : OK 0 21 30 := ok_of (by decide +kernel)
theorem ok_22 : OK 0 22 30 := ok_of (by decide +kernel)
theorem ok_23 : OK 0 23 30 := ok_of (by decide +kernel)
theorem ok_24 : OK 0 24 4 := ok_of (by decide +kernel)
theorem ok_25 : OK 0 25 30 := ok_of (by decide +kernel)
theorem ok_26 : OK 0 26 30 := ok_of (by decide +kernel)
theorem ok_27 : OK 0 27 30 := ok_of (by decide +kernel)
theorem ok_28 : OK 0 28 4 := ok_of (by decide +kernel)
theorem ok_29 : OK 0 29 30 := ok_of (by decide +kernel)
theorem ok_30 : OK 0 30 30 := ok_of (by decide +kernel)
theorem ok_31 : OK 0 31 30 := ok_of (by decide +kernel)
theorem ok_32 : OK 0 32 4 := ok_of (by decide +kernel)
theorem ok_33 : OK 0 33 30 := ok_of (by decide +kernel)
theorem ok_34 : OK 0 34 30 := ok_of (by decide +kernel)
theorem ok_35 : OK 0 35 30 := ok_of (by decide +kernel)
theorem ok_36 : OK 0 36 4 := ok_of (by decide +kernel)
theorem ok_37 : OK 0 37 30 := ok_of (by decide +kernel)
theorem ok_38 : OK 0 38 30 := ok_of (by decide +kernel)
theorem ok_39 : OK 0 39 30 := ok_of (by decide +kernel)
theorem ok_40 : OK 0 40 4 := ok_of (by decide +kernel)
theorem ok_41 : OK 0 41 30 := ok_of (by decide +kernel)
theorem ok_42 : OK 0 42 30 := ok_of (by decide +kernel)
theorem ok_43 : OK 0 43 30 := ok_of (by decide +kernel)
theorem ok_44 : OK 0 44 4 := ok_of (by decide +kernel)
theorem ok_45 : OK 0 45 30 := ok_of (by decide +kernel)
theorem ok_46 : OK 0 46 30 := ok_of (by decide +kernel)
theorem ok_47 : OK 0 47 30 := ok_of (by decide +kernel)
theorem ok_48 : OK 0 48 4 := ok_of (by decide +kernel)
theorem ok_49 : OK 0 49 30 := ok_of (by decide +kernel)
theorem ok_50 : OK 0 50 30 := ok_of (by decide +kernel)
theorem ok_51 : OK 0 51 30 := ok_of (by decide +kernel)
theorem ok_52 : OK 0 52 4 := ok_of (by decide +kernel)
theorem ok_53 : OK 0 53 30 := ok_of (by decide +kernel)
theorem ok_54 : OK 0 54 30 := ok_of (by decide +kernel)
theorem ok_55 : OK 0 55 30 := ok_of (by decide +kernel)
theorem ok_56 : OK 0 56 4 := ok_of (by decide +kernel)
theorem ok_57 : OK 0 57 30 := ok_of (by decide +kernel)
theorem ok_58 : OK 0 58 30 := ok_of (by decide +kernel)
theorem ok_59 : OK 0 59 30 := ok_of (by decide +kernel)
theorem ok_60 : OK 0 60 4 := ok_of (by decide +kernel)
theorem ok_61 : OK 0 61 30 := ok_of (by decide +kernel)
theorem ok_62 : OK 0 62 30 := ok_of (by decide +kernel)
theorem ok_63 : OK 0 63 30 := ok_of (by decide +kernel)
theorem ok_64 : OK 0 64 2 := ok_of (by decide +kernel)
theorem ok_65 : OK 0 65 30 := ok_of (by decide +kernel)
theorem ok_66 : OK 0 66 30 := ok_of (by decide +kernel)
theorem ok_67 : OK 0 67 30 := ok_of (by decide +kernel)
theorem ok_68 : OK 0 68 30 := ok_of (by decide +kernel)
theorem ok_69 : OK 0 69 30 := ok_of (by decide +kernel)
theorem ok_70 : OK 0 70 2 := ok_of (by decide +kernel)
theorem ok_71 : OK 0 71 30 := ok_of (by decide +kernel)
theorem ok_72 : OK 0 72 30 := ok_of (by decide +kernel)
theorem ok_73 : OK 0 73 30 := ok_of (by decide +kernel)
theorem ok_74 : OK 0 74 30 := ok_of (by decide +kernel)
theorem ok_75 : OK 0 75 30 := ok_of (by decide +kernel)
theorem ok_76 : OK 0 76 2 := ok_of (by decide +kernel)
theorem ok_77 : OK 0 77 30 := ok_of (by decide +kernel)
theorem ok_78 : OK 0 78 30 := ok_of (by decide +kernel)
theorem ok_79 : OK 0 79 30 := ok_of (by decide +kernel)
theorem ok_80 : OK 0 80 30 := ok_of (by decide +kernel)
theorem ok_81 : OK 0 81 30 := ok_of (by decide +kernel)
theorem ok_82 : OK 0 82 6 := ok_of (by decide +kernel)
theorem ok_83 : OK 0 83 30 := ok_of (by decide +kernel)
theorem ok_84 : OK 0 84 30 := ok_of (by decide +kernel)
theorem ok_85 : OK 0 85 30 := ok_of (by decide +kernel)
theorem ok_86 : OK 0 86 30 := ok_of (by decide +kernel)
theorem ok_87 : OK 0 87 5 := ok_of (by decide +kernel)
theorem ok_88 : OK 0 88 30 := ok_of (by decide +kernel)
theorem ok_89 : OK 0 89 30 := ok_of (by decide +kernel)
theorem ok_90 : OK 0 90 0 := ok_of (by decide +kernel)
theorem ok_91 : OK 0 91 31 := ok_of (by decide +kernel)
theorem ok_92 : OK 0 92 30 := ok_of (by decide +kernel)
theorem ok_93 : OK 0 93 30 := ok_of (by decide +kernel)
theorem ok_94 : OK 0 94 31 := ok_of (by decide +kernel)
theorem ok_95 : OK 0 95 31 := ok_of (by decide +kernel)
theorem ok_96 : OK 0 96 30 := ok_of (by decide +kernel)
theorem ok_97 : OK 0 97 1 := ok_of (by decide +kernel)
theorem ok_98 : OK 0 98 7 := ok_of (by decide +kernel)
theorem ok_99 : OK 0 99 33 := ok_of (by decide +kernel)
theorem ok_100 : OK 0 100 30 := ok_of (by decide +kernel)
theorem ok_101 : OK 0 101 30 := ok_of (by decide +kernel)
theorem ok_102 : OK 0 102 3 := ok_of (by decide +kernel)
theorem ok_103 : OK 0 103 30 := ok_of (by decide +kernel)
theorem ok_104 : OK 0 104 7 := ok_of (by decide +kernel)
theorem ok_105 : OK 0 105 33 := ok_of (by decide +kernel)
theorem ok_106 : OK 0 106 30 := ok_of (by decide +kernel)
theorem ok_107 : OK 0 107 30 := ok_of (by decide +kernel)
theorem ok_200 : OK 1 200 9 := ok_of (by decide +kernel)
theorem ok_201 : OK 1 201 30 := ok_of (by decide +kernel)
theorem ok_202 : OK 1 202 30 := ok_of (by decide +kernel)
theorem ok_203 : OK 1 203 30 := ok_of (by decide +kernel)
theorem ok_204 : OK 1 204 30 := ok_of (by decide +kernel)
theorem ok_205 : OK 1 205 30 := ok_of (by decide +kernel)
theorem ok_206 : OK 1 206 30 := ok_of (by decide +kernel)
theorem ok_207 : OK 1 207 30 := ok_of (by decide +kernel)
theorem ok_208 : OK 1 208 30 := ok_of (by decide +kernel)
theorem ok_209 : OK 1 209 30 := ok_of (by decide +kernel)
theorem ok_210 : OK 1 210 30 := ok_of (by decide +kernel)
theorem ok_211 : OK 1 211 30 := ok_of (by decide +kernel)
theorem ok_212 : OK 1 212 30 := ok_of (by decide +kernel)
theorem ok_213 : OK 1 213 30 := ok_of (by decide +kernel)
theorem ok_214 : OK 1 214 30 := ok_of (by decide +kernel)
theorem ok_215 : OK 1 215 30 := ok_of (by decide +kernel)
theorem ok_216 : OK 1 216 41 := ok_of (by decide +kernel)
theorem okf4_1 {i : Nat} (h : OK 0 i 4) : OK 0 (i + 1) 30 ∧ ln (i + 1) = 45 := by
  have q := kd_lt h.2.2 (by decide)
  have a := (show ∀ j, j < 217 → kd j = 4 → okc 0 (j + 1) 30 = true ∧ ln (j + 1) = 45 by decide +kernel) i q h.2.2
  exact ⟨ok_of a.1, a.2⟩
theorem okf4_2 {i : Nat} (h : OK 0 i 4) : OK 0 (i + 2) 30 ∧ ln (i + 2) = 50 := by
  have q := kd_lt h.2.2 (by decide)
  have a := (show ∀ j, j < 217 → kd j = 4 → okc 0 (j + 2) 30 = true ∧ ln (j + 2) = 50 by decide +kernel) i q h.2.2
  exact ⟨ok_of a.1, a.2⟩
theorem okf4_3 {i : Nat} (h : OK 0 i 4) : OK 0 (i + 3) 30 ∧ ln (i + 3) = 300 := by
  have q := kd_lt h.2.2 (by decide)
  have a := (show ∀ j, j < 217 → kd j = 4 → okc 0 (j + 3) 30 = true ∧ ln (j + 3) = 300 by decide +kernel) i q h.2.2
  exact ⟨ok_of a.1, a.2⟩
theorem okf2_1 {i : Nat} (h : OK 0 i 2) : OK 0 (i + 1) 30 ∧ ln (i + 1) = 12 := by
  have q := kd_lt h.2.2 (by decide)
  have a := (show ∀ j, j < 217 → kd j = 2 → okc 0 (j + 1) 30 = true ∧ ln (j + 1) = 12 by decide +kernel) i q h.2.2
  exact ⟨ok_of a.1, a.2⟩
theorem okf2_2 {i : Nat} (h : OK 0 i 2) : OK 0 (i + 2) 30 ∧ ln (i + 2) = 12 := by
  have q := kd_lt h.2.2 (by decide)
  have a := (show ∀ j, j < 217 → kd j = 2 → okc 0 (j + 2) 30 = true ∧ ln (j + 2) = 12 by decide +kernel) i q h.2.2
  exact ⟨ok_of a.1, a.2⟩
theorem okf2_3 {i : Nat} (h : OK 0 i 2) : OK 0 (i + 3) 30 ∧ ln (i + 3) = 12 := by
  have q := kd_lt h.2.2 (by decide)
  have a := (show ∀ j, j < 217 → kd j = 2 → okc 0 (j + 3) 30 = true ∧ ln (j + 3) = 12 by decide +kernel) i q h.2.2
  exact ⟨ok_of a.1, a.2⟩
theorem okf2_4 {i : Nat} (h : OK 0 i 2) : OK 0 (i + 4) 30 ∧ ln (i + 4) = 400 := by
  have q := kd_lt h.2.2 (by decide)
  have a := (show ∀ j, j < 217 → kd j = 2 → okc 0 (j + 4) 30 = true ∧ ln (j + 4) = 400 by decide +kernel) i q h.2.2
  exact ⟨ok_of a.1, a.2⟩
theorem okf2_5 {i : Nat} (h : OK 0 i 2) : OK 0 (i + 5) 30 ∧ ln (i + 5) = 6 := by
  have q := kd_lt h.2.2 (by decide)
  have a := (show ∀ j, j < 217 → kd j = 2 → okc 0 (j + 5) 30 = true ∧ ln (j + 5) = 6 by decide +kernel) i q h.2.2
  exact ⟨ok_of a.1, a.2⟩
theorem okf7_1 {i : Nat} (h : OK 0 i 7) : OK 0 (i + 1) 33 ∧ ln (i + 1) = 401 := by
  have q := kd_lt h.2.2 (by decide)
  have a := (show ∀ j, j < 217 → kd j = 7 → okc 0 (j + 1) 33 = true ∧ ln (j + 1) = 401 by decide +kernel) i q h.2.2
  exact ⟨ok_of a.1, a.2⟩
theorem okf7_2 {i : Nat} (h : OK 0 i 7) : OK 0 (i + 2) 30 ∧ ln (i + 2) = 401 := by
  have q := kd_lt h.2.2 (by decide)
  have a := (show ∀ j, j < 217 → kd j = 7 → okc 0 (j + 2) 30 = true ∧ ln (j + 2) = 401 by decide +kernel) i q h.2.2
  exact ⟨ok_of a.1, a.2⟩
theorem okf7_3 {i : Nat} (h : OK 0 i 7) : OK 0 (i + 3) 30 ∧ ln (i + 3) = 401 := by
  have q := kd_lt h.2.2 (by decide)
  have a := (show ∀ j, j < 217 → kd j = 7 → okc 0 (j + 3) 30 = true ∧ ln (j + 3) = 401 by decide +kernel) i q h.2.2
  exact ⟨ok_of a.1, a.2⟩
theorem iw_RX0 : ∀ z ∈ u_ws RX0 TX0 8, z ∈ TB := fun z h => TB_of (inX0 z h) ((show ∀ z ∈ u_ws RX0 TX0 8, goodWord z = true by decide +kernel) z h)
theorem iw_RX1 : ∀ z ∈ u_ws RX1 TX1 2, z ∈ TB := fun z h => TB_of (inX1 z h) ((show ∀ z ∈ u_ws RX1 TX1 2, goodWord z = true by decide +kernel) z h)
theorem iw_RX2 : ∀ z ∈ u_ws RX2 TX2 7, z ∈ TB := fun z h => TB_of (inX2 z h) ((show ∀ z ∈ u_ws RX2 TX2 7, goodWord z = true by decide +kernel) z h)
theorem iw_RX3 : ∀ z ∈ u_ws RX3 TX3 4, z ∈ TB := fun z h => TB_of (inX3 z h) ((show ∀ z ∈ u_ws RX3 TX3 4, goodWord z = true by decide +kernel) z h)
theorem iw_RX4 : ∀ z ∈ u_ws RX4 TX4 10, z ∈ TB := fun z h => TB_of (inX4 z h) ((show ∀ z ∈ u_ws RX4 TX4 10, goodWord z = true by decide +kernel) z h)
theorem iw_RX5 : ∀ z ∈ u_ws RX5 TX5 5, z ∈ TB := fun z h => TB_of (inX5 z h) ((show ∀ z ∈ u_ws RX5 TX5 5, goodWord z = true by decide +kernel) z h)
theorem iw_RX6 : ∀ z ∈ u_ws RX6 TX6 4, z ∈ TB := fun z h => TB_of (inX6 z h) ((show ∀ z ∈ u_ws RX6 TX6 4, goodWord z = true by decide +kernel) z h)
theorem iw_RX7 : ∀ z ∈ u_ws RX7 TX7 9, z ∈ TB := fun z h => TB_of (inX7 z h) ((show ∀ z ∈ u_ws RX7 TX7 9, goodWord z = true by decide +kernel) z h)
theorem iw_RX9 : ∀ z ∈ u_ws RX9 TX9 17, z ∈ TB := fun z h => TB_of (inX9 z h) ((show ∀ z ∈ u_ws RX9 TX9 17, goodWord z = true by decide +kernel) z h)
theorem iw_RX10 : ∀ z ∈ u_ws RX10 TX10 28, z ∈ TB := fun z h => TB_of (inX10 z h) ((show ∀ z ∈ u_ws RX10 TX10 28, goodWord z = true by decide +kernel) z h)
theorem fo_RX0_11 : FOK RX0 RX0 TX0 8 0 11 0 := ⟨rfl, by decide, rfl, by decide, iw_RX0, TB_of (mt_1 (i := 173) (by decide +kernel)) (by decide +kernel)⟩
theorem fo_RX0_17 : FOK RX0 RX0 TX0 8 0 17 1 := ⟨rfl, by decide, rfl, by decide, iw_RX0, TB_of (mt_1 (i := 174) (by decide +kernel)) (by decide +kernel)⟩
theorem fo_RX0_21 : FOK RX0 RX0 TX0 8 0 21 2 := ⟨rfl, by decide, rfl, by decide, iw_RX0, TB_of (mt_1 (i := 176) (by decide +kernel)) (by decide +kernel)⟩
theorem fo_RX0_24 : FOK RX0 RX0 TX0 8 0 24 3 := ⟨rfl, by decide, rfl, by decide, iw_RX0, TB_of (mt_1 (i := 177) (by decide +kernel)) (by decide +kernel)⟩
theorem fo_RX0_27 : FOK RX0 RX0 TX0 8 0 27 4 := ⟨rfl, by decide, rfl, by decide, iw_RX0, TB_of (mt_1 (i := 178) (by decide +kernel)) (by decide +kernel)⟩
theorem fo_RX0_30 : FOK RX0 RX0 TX0 8 0 30 5 := ⟨rfl, by decide, rfl, by decide, iw_RX0, TB_of (mt_1 (i := 179) (by decide +kernel)) (by decide +kernel)⟩
theorem fo_RX0_33 : FOK RX0 RX4 TX4 10 4 33 3 := ⟨rfl, by decide, rfl, by decide, iw_RX4, TB_of (mt_1 (i := 47) (by decide +kernel)) (by decide +kernel)⟩
theorem fo_RX0_39 : FOK RX0 RX0 TX0 8 0 39 6 := ⟨rfl, by decide, rfl, by decide, iw_RX0, TB_of (mt_1 (i := 180) (by decide +kernel)) (by decide +kernel)⟩
theorem fo_RX0_40 : FOK RX0 RX4 TX4 10 4 40 4 := ⟨rfl, by decide, rfl, by decide, iw_RX4, TB_of (mt_1 (i := 53) (by decide +kernel)) (by decide +kernel)⟩
theorem fo_RX0_43 : FOK RX0 RX0 TX0 8 0 43 7 := ⟨rfl, by decide, rfl, by decide, iw_RX0, TB_of (mt_1 (i := 181) (by decide +kernel)) (by decide +kernel)⟩
theorem fo_RX10_13 : FOK RX10 RX10 TX10 28 9 13 2 := ⟨rfl, by decide, rfl, by decide, iw_RX10, TB_of (mt_6 (i := 123) (by decide +kernel)) (by decide +kernel)⟩
theorem fo_RX10_158 : FOK RX10 RX10 TX10 28 9 158 13 := ⟨rfl, by decide, rfl, by decide, iw_RX10, TB_of (mt_6 (i := 134) (by decide +kernel)) (by decide +kernel)⟩
theorem fo_RX10_158p : FOP RX10 RX10 TX10 28 9 158 13 tyX10 .int := ⟨fo_RX10_158, tyX10_ok, nmX10, rfl, by decide +kernel⟩
theorem fo_RX10_16 : FOK RX10 RX10 TX10 28 9 16 4 := ⟨rfl, by decide, rfl, by decide, iw_RX10, TB_of (mt_6 (i := 125) (by decide +kernel)) (by decide +kernel)⟩
theorem fo_RX10_184 : FOK RX10 RX10 TX10 28 9 184 6 := ⟨rfl, by decide, rfl, by decide, iw_RX10, TB_of (mt_6 (i := 127) (by decide +kernel)) (by decide +kernel)⟩
theorem fo_RX10_19 : FOK RX10 RX10 TX10 28 9 19 5 := ⟨rfl, by decide, rfl, by decide, iw_RX10, TB_of (mt_6 (i := 126) (by decide +kernel)) (by decide +kernel)⟩
theorem fo_RX10_208 : FOK RX10 RX10 TX10 28 9 208 16 := ⟨rfl, by decide, rfl, by decide, iw_RX10, TB_of (mt_6 (i := 137) (by decide +kernel)) (by decide +kernel)⟩
theorem fo_RX10_208p : FOP RX10 RX10 TX10 28 9 208 16 tyX10 .int := ⟨fo_RX10_208, tyX10_ok, nmX10, rfl, by decide +kernel⟩
theorem fo_RX10_22 : FOK RX10 RX10 TX10 28 9 22 7 := ⟨rfl, by decide, rfl, by decide, iw_RX10, TB_of (mt_6 (i := 128) (by decide +kernel)) (by decide +kernel)⟩
theorem fo_RX10_241 : FOK RX10 RX10 TX10 28 9 241 15 := ⟨rfl, by decide, rfl, by decide, iw_RX10, TB_of (mt_6 (i := 136) (by decide +kernel)) (by decide +kernel)⟩
theorem fo_RX10_241p : FOP RX10 RX10 TX10 28 9 241 15 tyX10 .int := ⟨fo_RX10_241, tyX10_ok, nmX10, rfl, by decide +kernel⟩
theorem fo_RX10_244 : FOK RX10 RX10 TX10 28 9 244 17 := ⟨rfl, by decide, rfl, by decide, iw_RX10, TB_of (mt_6 (i := 138) (by decide +kernel)) (by decide +kernel)⟩
theorem fo_RX10_244p : FOP RX10 RX10 TX10 28 9 244 17 tyX10 .int := ⟨fo_RX10_244, tyX10_ok, nmX10, rfl, by decide +kernel⟩
theorem fo_RX10_25 : FOK RX10 RX10 TX10 28 9 25 12 := ⟨rfl, by decide, rfl, by decide, iw_RX10, TB_of (mt_6 (i := 133) (by decide +kernel)) (by decide +kernel)⟩
theorem fo_RX10_25p : FOP RX10 RX10 TX10 28 9 25 12 tyX10 .int := ⟨fo_RX10_25, tyX10_ok, nmX10, rfl, by decide +kernel⟩
theorem fo_RX10_29 : FOK RX10 RX10 TX10 28 9 29 14 := ⟨rfl, by decide, rfl, by decide, iw_RX10, TB_of (mt_6 (i := 135) (by decide +kernel)) (by decide +kernel)⟩
theorem fo_RX10_32 : FOK RX10 RX10 TX10 28 9 32 18 := ⟨rfl, by decide, rfl, by decide, iw_RX10, TB_of (mt_6 (i := 139) (by decide +kernel)) (by decide +kernel)⟩
theorem fo_RX10_35 : FOK RX10 RX10 TX10 28 9 35 19 := ⟨rfl, by decide, rfl, by decide, iw_RX10, TB_of (mt_6 (i := 140) (by decide +kernel)) (by decide +kernel)⟩
theorem fo_RX10_351 : FOK RX10 RX10 TX10 28 9 351 3 := ⟨rfl, by decide, rfl, by decide, iw_RX10, TB_of (mt_6 (i := 124) (by decide +kernel)) (by decide +kernel)⟩
theorem fo_RX10_38 : FOK RX10 RX10 TX10 28 9 38 20 := ⟨rfl, by decide, rfl, by decide, iw_RX10, TB_of (mt_6 (i := 141) (by decide +kernel)) (by decide +kernel)⟩
theorem fo_RX10_41 : FOK RX10 RX10 TX10 28 9 41 21 := ⟨rfl, by decide, rfl, by decide, iw_RX10, TB_of (mt_6 (i := 142) (by decide +kernel)) (by decide +kernel)⟩
theorem fo_RX10_44 : FOK RX10 RX10 TX10 28 9 44 22 := ⟨rfl, by decide, rfl, by decide, iw_RX10, TB_of (mt_6 (i := 143) (by decide +kernel)) (by decide +kernel)⟩
theorem fo_RX10_47 : FOK RX10 RX10 TX10 28 9 47 23 := ⟨rfl, by decide, rfl, by decide, iw_RX10, TB_of (mt_6 (i := 144) (by decide +kernel)) (by decide +kernel)⟩
theorem fo_RX10_50 : FOK RX10 RX10 TX10 28 9 50 24 := ⟨rfl, by decide, rfl, by decide, iw_RX10, TB_of (mt_6 (i := 145) (by decide +kernel)) (by decide +kernel)⟩
theorem fo_RX10_53 : FOK RX10 RX10 TX10 28 9 53 25 := ⟨rfl, by decide, rfl, by decide, iw_RX10, TB_of (mt_6 (i := 146) (by decide +kernel)) (by decide +kernel)⟩
theorem fo_RX10_56 : FOK RX10 RX10 TX10 28 9 56 26 := ⟨rfl, by decide, rfl, by decide, iw_RX10, TB_of (mt_6 (i := 147) (by decide +kernel)) (by decide +kernel)⟩
theorem fo_RX10_59 : FOK RX10 RX10 TX10 28 9 59 27 := ⟨rfl, by decide, rfl, by decide, iw_RX10, TB_of (mt_6 (i := 148) (by decide +kernel)) (by decide +kernel)⟩
theorem fo_RX10_63 : FOK RX10 RX10 TX10 28 9 63 0 := ⟨rfl, by decide, rfl, by decide, iw_RX10, TB_of (mt_6 (i := 121) (by decide +kernel)) (by decide +kernel)⟩
theorem fo_RX10_63p : FOP RX10 RX10 TX10 28 9 63 0 tyX10 .int := ⟨fo_RX10_63, tyX10_ok, nmX10, rfl, by decide +kernel⟩
theorem fo_RX10_7 : FOK RX10 RX10 TX10 28 9 7 1 := ⟨rfl, by decide, rfl, by decide, iw_RX10, TB_of (mt_6 (i := 122) (by decide +kernel)) (by decide +kernel)⟩
theorem fo_RX10_74 : FOK RX10 RX10 TX10 28 9 74 8 := ⟨rfl, by decide, rfl, by decide, iw_RX10, TB_of (mt_6 (i := 129) (by decide +kernel)) (by decide +kernel)⟩
theorem fo_RX10_74p : FOP RX10 RX10 TX10 28 9 74 8 tyX10 .int := ⟨fo_RX10_74, tyX10_ok, nmX10, rfl, by decide +kernel⟩
theorem fo_RX10_77 : FOK RX10 RX10 TX10 28 9 77 9 := ⟨rfl, by decide, rfl, by decide, iw_RX10, TB_of (mt_6 (i := 130) (by decide +kernel)) (by decide +kernel)⟩
theorem fo_RX10_77p : FOP RX10 RX10 TX10 28 9 77 9 tyX10 .int := ⟨fo_RX10_77, tyX10_ok, nmX10, rfl, by decide +kernel⟩
theorem fo_RX10_80 : FOK RX10 RX10 TX10 28 9 80 11 := ⟨rfl, by decide, rfl, by decide, iw_RX10, TB_of (mt_6 (i := 132) (by decide +kernel)) (by decide +kernel)⟩
theorem fo_RX10_80p : FOP RX10 RX10 TX10 28 9 80 11 tyX10 .int := ⟨fo_RX10_80, tyX10_ok, nmX10, rfl, by decide +kernel⟩
theorem fo_RX10_83 : FOK RX10 RX10 TX10 28 9 83 10 := ⟨rfl, by decide, rfl, by decide, iw_RX10, TB_of (mt_6 (i := 131) (by decide +kernel)) (by decide +kernel)⟩
theorem fo_RX10_83p : FOP RX10 RX10 TX10 28 9 83 10 tyX10 .int := ⟨fo_RX10_83, tyX10_ok, nmX10, rfl, by decide +kernel⟩
theorem fo_RX1_12 : FOK RX1 RX1 TX1 2 1 12 0 := ⟨rfl, by decide, rfl, by decide, iw_RX1, TB_of (mt_2 (i := 7) (by decide +kernel)) (by decide +kernel)⟩
theorem fo_RX1_61 : FOK RX1 RX4 TX4 10 4 61 4 := ⟨rfl, by decide, rfl, by decide, iw_RX4, TB_of (mt_1 (i := 56) (by decide +kernel)) (by decide +kernel)⟩
theorem fo_RX1_61p : FOP RX1 RX4 TX4 10 4 61 4 tyX4 .int := ⟨fo_RX1_61, tyX4_ok, nmX4, rfl, by decide +kernel⟩
theorem fo_RX2_15 : FOK RX2 RX2 TX2 7 2 15 1 := ⟨rfl, by decide, rfl, by decide, iw_RX2, TB_of (mt_1 (i := 100) (by decide +kernel)) (by decide +kernel)⟩
theorem fo_RX2_18 : FOK RX2 RX2 TX2 7 2 18 2 := ⟨rfl, by decide, rfl, by decide, iw_RX2, TB_of (mt_1 (i := 101) (by decide +kernel)) (by decide +kernel)⟩
theorem fo_RX2_21 : FOK RX2 RX2 TX2 7 2 21 3 := ⟨rfl, by decide, rfl, by decide, iw_RX2, TB_of (mt_1 (i := 102) (by decide +kernel)) (by decide +kernel)⟩
theorem fo_RX2_24 : FOK RX2 RX2 TX2 7 2 24 4 := ⟨rfl, by decide, rfl, by decide, iw_RX2, TB_of (mt_1 (i := 103) (by decide +kernel)) (by decide +kernel)⟩
theorem fo_RX2_27 : FOK RX2 RX2 TX2 7 2 27 6 := ⟨rfl, by decide, rfl, by decide, iw_RX2, TB_of (mt_1 (i := 105) (by decide +kernel)) (by decide +kernel)⟩
theorem fo_RX2_27p : FOP RX2 RX2 TX2 7 2 27 6 tyX2 .int := ⟨fo_RX2_27, tyX2_ok, nmX2, rfl, by decide +kernel⟩
theorem fo_RX2_31 : FOK RX2 RX2 TX2 7 2 31 5 := ⟨rfl, by decide, rfl, by decide, iw_RX2, TB_of (mt_1 (i := 104) (by decide +kernel)) (by decide +kernel)⟩
theorem fo_RX2_31p : FOP RX2 RX2 TX2 7 2 31 5 tyX2 .int := ⟨fo_RX2_31, tyX2_ok, nmX2, rfl, by decide +kernel⟩
theorem fo_RX2_53 : FOK RX2 RX4 TX4 10 4 53 7 := ⟨rfl, by decide, rfl, by decide, iw_RX4, TB_of (mt_1 (i := 64) (by decide +kernel)) (by decide +kernel)⟩
theorem fo_RX2_9 : FOK RX2 RX2 TX2 7 2 9 0 := ⟨rfl, by decide, rfl, by decide, iw_RX2, TB_of (mt_1 (i := 99) (by decide +kernel)) (by decide +kernel)⟩
theorem fo_RX3_14 : FOK RX3 RX3 TX3 4 3 14 0 := ⟨rfl, by decide, rfl, by decide, iw_RX3, TB_of (mt_2 (i := 23) (by decide +kernel)) (by decide +kernel)⟩
theorem fo_RX3_20 : FOK RX3 RX3 TX3 4 3 20 1 := ⟨rfl, by decide, rfl, by decide, iw_RX3, TB_of (mt_2 (i := 25) (by decide +kernel)) (by decide +kernel)⟩
theorem fo_RX3_30 : FOK RX3 RX7 TX7 9 7 30 5 := ⟨rfl, by decide, rfl, by decide, iw_RX7, TB_of (mt_1 (i := 223) (by decide +kernel)) (by decide +kernel)⟩
theorem fo_RX3_80 : FOK RX3 RX3 TX3 4 3 80 2 := ⟨rfl, by decide, rfl, by decide, iw_RX3, TB_of (mt_2 (i := 26) (by decide +kernel)) (by decide +kernel)⟩
theorem fo_RX3_80p : FOP RX3 RX3 TX3 4 3 80 2 tyX3 .int := ⟨fo_RX3_80, tyX3_ok, nmX3, rfl, by decide +kernel⟩
theorem fo_RX3_84 : FOK RX3 RX3 TX3 4 3 84 3 := ⟨rfl, by decide, rfl, by decide, iw_RX3, TB_of (mt_2 (i := 27) (by decide +kernel)) (by decide +kernel)⟩
theorem fo_RX3_84p : FOP RX3 RX3 TX3 4 3 84 3 tyX3 .int := ⟨fo_RX3_84, tyX3_ok, nmX3, rfl, by decide +kernel⟩
theorem fo_RX4_15 : FOK RX4 RX4 TX4 10 4 15 1 := ⟨rfl, by decide, rfl, by decide, iw_RX4, TB_of (mt_1 (i := 44) (by decide +kernel)) (by decide +kernel)⟩
theorem fo_RX4_18 : FOK RX4 RX4 TX4 10 4 18 2 := ⟨rfl, by decide, rfl, by decide, iw_RX4, TB_of (mt_1 (i := 45) (by decide +kernel)) (by decide +kernel)⟩
theorem fo_RX4_21 : FOK RX4 RX4 TX4 10 4 21 6 := ⟨rfl, by decide, rfl, by decide, iw_RX4, TB_of (mt_1 (i := 60) (by decide +kernel)) (by decide +kernel)⟩
theorem fo_RX4_25 : FOK RX4 RX4 TX4 10 4 25 8 := ⟨rfl, by decide, rfl, by decide, iw_RX4, TB_of (mt_1 (i := 67) (by decide +kernel)) (by decide +kernel)⟩
theorem fo_RX4_34 : FOK RX4 RX4 TX4 10 4 34 3 := ⟨rfl, by decide, rfl, by decide, iw_RX4, TB_of (mt_1 (i := 49) (by decide +kernel)) (by decide +kernel)⟩
theorem fo_RX4_37 : FOK RX4 RX4 TX4 10 4 37 4 := ⟨rfl, by decide, rfl, by decide, iw_RX4, TB_of (mt_1 (i := 55) (by decide +kernel)) (by decide +kernel)⟩
theorem fo_RX4_37p : FOP RX4 RX4 TX4 10 4 37 4 tyX4 .int := ⟨fo_RX4_37, tyX4_ok, nmX4, rfl, by decide +kernel⟩
theorem fo_RX4_40 : FOK RX4 RX4 TX4 10 4 40 5 := ⟨rfl, by decide, rfl, by decide, iw_RX4, TB_of (mt_1 (i := 58) (by decide +kernel)) (by decide +kernel)⟩
theorem fo_RX4_40p : FOP RX4 RX4 TX4 10 4 40 5 tyX4 .int := ⟨fo_RX4_40, tyX4_ok, nmX4, rfl, by decide +kernel⟩
theorem fo_RX4_43 : FOK RX4 RX4 TX4 10 4 43 7 := ⟨rfl, by decide, rfl, by decide, iw_RX4, TB_of (mt_1 (i := 63) (by decide +kernel)) (by decide +kernel)⟩
theorem fo_RX4_46 : FOK RX4 RX4 TX4 10 4 46 9 := ⟨rfl, by decide, rfl, by decide, iw_RX4, TB_of (mt_1 (i := 69) (by decide +kernel)) (by decide +kernel)⟩
theorem fo_RX4_9 : FOK RX4 RX4 TX4 10 4 9 0 := ⟨rfl, by decide, rfl, by decide, iw_RX4, TB_of (mt_1 (i := 43) (by decide +kernel)) (by decide +kernel)⟩
theorem fo_RX5_15 : FOK RX5 RX5 TX5 5 5 15 1 := ⟨rfl, by decide, rfl, by decide, iw_RX5, TB_of (mt_1 (i := 152) (by decide +kernel)) (by decide +kernel)⟩
theorem fo_RX5_18 : FOK RX5 RX4 TX4 10 4 18 3 := ⟨rfl, by decide, rfl, by decide, iw_RX4, TB_of (mt_1 (i := 46) (by decide +kernel)) (by decide +kernel)⟩
theorem fo_RX5_24 : FOK RX5 RX5 TX5 5 5 24 2 := ⟨rfl, by decide, rfl, by decide, iw_RX5, TB_of (mt_1 (i := 153) (by decide +kernel)) (by decide +kernel)⟩
theorem fo_RX5_25 : FOK RX5 RX4 TX4 10 4 25 4 := ⟨rfl, by decide, rfl, by decide, iw_RX4, TB_of (mt_1 (i := 52) (by decide +kernel)) (by decide +kernel)⟩
theorem fo_RX5_28 : FOK RX5 RX5 TX5 5 5 28 3 := ⟨rfl, by decide, rfl, by decide, iw_RX5, TB_of (mt_1 (i := 154) (by decide +kernel)) (by decide +kernel)⟩
theorem fo_RX5_29 : FOK RX5 RX5 TX5 5 5 29 4 := ⟨rfl, by decide, rfl, by decide, iw_RX5, TB_of (mt_1 (i := 155) (by decide +kernel)) (by decide +kernel)⟩
theorem fo_RX5_32 : FOK RX5 RX6 TX6 4 6 32 1 := ⟨rfl, by decide, rfl, by decide, iw_RX6, TB_of (mt_1 (i := 131) (by decide +kernel)) (by decide +kernel)⟩
theorem fo_RX5_9 : FOK RX5 RX5 TX5 5 5 9 0 := ⟨rfl, by decide, rfl, by decide, iw_RX5, TB_of (mt_1 (i := 151) (by decide +kernel)) (by decide +kernel)⟩
theorem fo_RX6_106 : FOK RX6 RX4 TX4 10 4 106 7 := ⟨rfl, by decide, rfl, by decide, iw_RX4, TB_of (mt_1 (i := 65) (by decide +kernel)) (by decide +kernel)⟩
theorem fo_RX6_106p : FOP RX6 RX4 TX4 10 4 106 7 tyX4 .int := ⟨fo_RX6_106, tyX4_ok, nmX4, rfl, by decide +kernel⟩
theorem fo_RX6_15 : FOK RX6 RX6 TX6 4 6 15 1 := ⟨rfl, by decide, rfl, by decide, iw_RX6, TB_of (mt_1 (i := 130) (by decide +kernel)) (by decide +kernel)⟩
theorem fo_RX6_18 : FOK RX6 RX6 TX6 4 6 18 2 := ⟨rfl, by decide, rfl, by decide, iw_RX6, TB_of (mt_1 (i := 133) (by decide +kernel)) (by decide +kernel)⟩
theorem fo_RX6_21 : FOK RX6 RX6 TX6 4 6 21 3 := ⟨rfl, by decide, rfl, by decide, iw_RX6, TB_of (mt_1 (i := 135) (by decide +kernel)) (by decide +kernel)⟩
theorem fo_RX6_24 : FOK RX6 RX4 TX4 10 4 24 3 := ⟨rfl, by decide, rfl, by decide, iw_RX4, TB_of (mt_1 (i := 48) (by decide +kernel)) (by decide +kernel)⟩
theorem fo_RX6_30 : FOK RX6 RX4 TX4 10 4 30 4 := ⟨rfl, by decide, rfl, by decide, iw_RX4, TB_of (mt_1 (i := 54) (by decide +kernel)) (by decide +kernel)⟩
theorem fo_RX6_9 : FOK RX6 RX6 TX6 4 6 9 0 := ⟨rfl, by decide, rfl, by decide, iw_RX6, TB_of (mt_1 (i := 129) (by decide +kernel)) (by decide +kernel)⟩
theorem fo_RX7_11 : FOK RX7 RX7 TX7 9 7 11 0 := ⟨rfl, by decide, rfl, by decide, iw_RX7, TB_of (mt_1 (i := 216) (by decide +kernel)) (by decide +kernel)⟩
theorem fo_RX7_113 : FOK RX7 RX7 TX7 9 7 113 6 := ⟨rfl, by decide, rfl, by decide, iw_RX7, TB_of (mt_1 (i := 224) (by decide +kernel)) (by decide +kernel)⟩
theorem fo_RX7_28 : FOK RX7 RX7 TX7 9 7 28 5 := ⟨rfl, by decide, rfl, by decide, iw_RX7, TB_of (mt_1 (i := 221) (by decide +kernel)) (by decide +kernel)⟩
theorem fo_RX7_31 : FOK RX7 RX7 TX7 9 7 31 8 := ⟨rfl, by decide, rfl, by decide, iw_RX7, TB_of (mt_1 (i := 226) (by decide +kernel)) (by decide +kernel)⟩
theorem fo_RX7_31p : FOP RX7 RX7 TX7 9 7 31 8 tyX7 .int := ⟨fo_RX7_31, tyX7_ok, nmX7, rfl, by decide +kernel⟩
theorem fo_RX7_35 : FOK RX7 RX7 TX7 9 7 35 3 := ⟨rfl, by decide, rfl, by decide, iw_RX7, TB_of (mt_1 (i := 219) (by decide +kernel)) (by decide +kernel)⟩
theorem fo_RX7_35p : FOP RX7 RX7 TX7 9 7 35 3 tyX7 .int := ⟨fo_RX7_35, tyX7_ok, nmX7, rfl, by decide +kernel⟩
theorem fo_RX7_79 : FOK RX7 RX7 TX7 9 7 79 4 := ⟨rfl, by decide, rfl, by decide, iw_RX7, TB_of (mt_1 (i := 220) (by decide +kernel)) (by decide +kernel)⟩
theorem fo_RX9_121 : FOK RX9 RX4 TX4 10 4 121 5 := ⟨rfl, by decide, rfl, by decide, iw_RX4, TB_of (mt_1 (i := 59) (by decide +kernel)) (by decide +kernel)⟩
theorem fo_RX9_129 : FOK RX9 RX9 TX9 17 8 129 11 := ⟨rfl, by decide, rfl, by decide, iw_RX9, TB_of (mt_2 (i := 48) (by decide +kernel)) (by decide +kernel)⟩
theorem fo_RX9_13 : FOK RX9 RX9 TX9 17 8 13 2 := ⟨rfl, by decide, rfl, by decide, iw_RX9, TB_of (mt_2 (i := 39) (by decide +kernel)) (by decide +kernel)⟩
theorem fo_RX9_136 : FOK RX9 RX2 TX2 7 2 136 6 := ⟨rfl, by decide, rfl, by decide, iw_RX2, TB_of (mt_1 (i := 106) (by decide +kernel)) (by decide +kernel)⟩
theorem fo_RX9_155 : FOK RX9 RX6 TX6 4 6 155 1 := ⟨rfl, by decide, rfl, by decide, iw_RX6, TB_of (mt_1 (i := 132) (by decide +kernel)) (by decide +kernel)⟩
theorem fo_RX9_191 : FOK RX9 RX4 TX4 10 4 191 3 := ⟨rfl, by decide, rfl, by decide, iw_RX4, TB_of (mt_1 (i := 51) (by decide +kernel)) (by decide +kernel)⟩
theorem fo_RX9_20 : FOK RX9 RX9 TX9 17 8 20 3 := ⟨rfl, by decide, rfl, by decide, iw_RX9, TB_of (mt_2 (i := 40) (by decide +kernel)) (by decide +kernel)⟩
theorem fo_RX9_24 : FOK RX9 RX9 TX9 17 8 24 4 := ⟨rfl, by decide, rfl, by decide, iw_RX9, TB_of (mt_2 (i := 41) (by decide +kernel)) (by decide +kernel)⟩
theorem fo_RX9_289 : FOK RX9 RX4 TX4 10 4 289 4 := ⟨rfl, by decide, rfl, by decide, iw_RX4, TB_of (mt_1 (i := 57) (by decide +kernel)) (by decide +kernel)⟩
theorem fo_RX9_30 : FOK RX9 RX9 TX9 17 8 30 5 := ⟨rfl, by decide, rfl, by decide, iw_RX9, TB_of (mt_2 (i := 42) (by decide +kernel)) (by decide +kernel)⟩
theorem fo_RX9_331 : FOK RX9 RX4 TX4 10 4 331 8 := ⟨rfl, by decide, rfl, by decide, iw_RX4, TB_of (mt_1 (i := 68) (by decide +kernel)) (by decide +kernel)⟩
theorem fo_RX9_331p : FOP RX9 RX4 TX4 10 4 331 8 tyX4 .int := ⟨fo_RX9_331, tyX4_ok, nmX4, rfl, by decide +kernel⟩
theorem fo_RX9_34 : FOK RX9 RX9 TX9 17 8 34 6 := ⟨rfl, by decide, rfl, by decide, iw_RX9, TB_of (mt_2 (i := 43) (by decide +kernel)) (by decide +kernel)⟩
theorem fo_RX9_351 : FOK RX9 RX9 TX9 17 8 351 9 := ⟨rfl, by decide, rfl, by decide, iw_RX9, TB_of (mt_2 (i := 46) (by decide +kernel)) (by decide +kernel)⟩
theorem fo_RX9_355 : FOK RX9 RX4 TX4 10 4 355 7 := ⟨rfl, by decide, rfl, by decide, iw_RX4, TB_of (mt_1 (i := 66) (by decide +kernel)) (by decide +kernel)⟩
theorem fo_RX9_358 : FOK RX9 RX4 TX4 10 4 358 6 := ⟨rfl, by decide, rfl, by decide, iw_RX4, TB_of (mt_1 (i := 62) (by decide +kernel)) (by decide +kernel)⟩
theorem fo_RX9_367 : FOK RX9 RX4 TX4 10 4 367 9 := ⟨rfl, by decide, rfl, by decide, iw_RX4, TB_of (mt_1 (i := 70) (by decide +kernel)) (by decide +kernel)⟩
theorem fo_RX9_37 : FOK RX9 RX9 TX9 17 8 37 7 := ⟨rfl, by decide, rfl, by decide, iw_RX9, TB_of (mt_2 (i := 44) (by decide +kernel)) (by decide +kernel)⟩
theorem fo_RX9_40 : FOK RX9 RX9 TX9 17 8 40 8 := ⟨rfl, by decide, rfl, by decide, iw_RX9, TB_of (mt_2 (i := 45) (by decide +kernel)) (by decide +kernel)⟩
theorem fo_RX9_43 : FOK RX9 RX9 TX9 17 8 43 10 := ⟨rfl, by decide, rfl, by decide, iw_RX9, TB_of (mt_2 (i := 47) (by decide +kernel)) (by decide +kernel)⟩
theorem fo_RX9_50 : FOK RX9 RX9 TX9 17 8 50 12 := ⟨rfl, by decide, rfl, by decide, iw_RX9, TB_of (mt_2 (i := 49) (by decide +kernel)) (by decide +kernel)⟩
theorem fo_RX9_57 : FOK RX9 RX9 TX9 17 8 57 13 := ⟨rfl, by decide, rfl, by decide, iw_RX9, TB_of (mt_2 (i := 50) (by decide +kernel)) (by decide +kernel)⟩
theorem fo_RX9_71 : FOK RX9 RX9 TX9 17 8 71 15 := ⟨rfl, by decide, rfl, by decide, iw_RX9, TB_of (mt_2 (i := 52) (by decide +kernel)) (by decide +kernel)⟩
theorem fo_RX9_78 : FOK RX9 RX9 TX9 17 8 78 16 := ⟨rfl, by decide, rfl, by decide, iw_RX9, TB_of (mt_2 (i := 53) (by decide +kernel)) (by decide +kernel)⟩
theorem fo_RX9_82 : FOK RX9 RX9 TX9 17 8 82 1 := ⟨rfl, by decide, rfl, by decide, iw_RX9, TB_of (mt_2 (i := 38) (by decide +kernel)) (by decide +kernel)⟩
theorem fo_RX9_82p : FOP RX9 RX9 TX9 17 8 82 1 tyX9 .int := ⟨fo_RX9_82, tyX9_ok, nmX9, rfl, by decide +kernel⟩
theorem fo_RX9_9 : FOK RX9 RX9 TX9 17 8 9 0 := ⟨rfl, by decide, rfl, by decide, iw_RX9, TB_of (mt_2 (i := 37) (by decide +kernel)) (by decide +kernel)⟩
theorem kc_RJ13_314 : Cond.constantLong RJ13 314 (6148914691236517205) ∈ TB := TB_of (mt_6 (i := 23) (by decide +kernel)) (by decide +kernel)
theorem kc_RJ13_316 : Cond.constantLong RJ13 316 (3689348814741910323) ∈ TB := TB_of (mt_6 (i := 24) (by decide +kernel)) (by decide +kernel)
theorem kc_RJ13_318 : Cond.constantLong RJ13 318 (1085102592571150095) ∈ TB := TB_of (mt_6 (i := 25) (by decide +kernel)) (by decide +kernel)
theorem kc_RJ6_264 : Cond.constant RJ6 264 (65536) ∈ TB := TB_of (mt_4 (i := 187) (by decide +kernel)) (by decide +kernel)
theorem kc_RJ6_265 : Cond.constant RJ6 265 (1431655765) ∈ TB := TB_of (mt_2 (i := 235) (by decide +kernel)) (by decide +kernel)
theorem kc_RJ6_266 : Cond.constant RJ6 266 (858993459) ∈ TB := TB_of (mt_2 (i := 236) (by decide +kernel)) (by decide +kernel)
theorem kc_RJ6_267 : Cond.constant RJ6 267 (252645135) ∈ TB := TB_of (mt_2 (i := 237) (by decide +kernel)) (by decide +kernel)
theorem kc_RX0_70 : Cond.constantLong RX0 70 (1000000000) ∈ TB := TB_of (mt_5 (i := 169) (by decide +kernel)) (by decide +kernel)
theorem kc_RX0_77 : Cond.constantLong RX0 77 (10000000000) ∈ TB := TB_of (mt_5 (i := 171) (by decide +kernel)) (by decide +kernel)
theorem kc_RX0_86 : Cond.constantLong RX0 86 (10) ∈ TB := TB_of (mt_5 (i := 176) (by decide +kernel)) (by decide +kernel)
theorem kc_RX0_92 : Cond.constantLong RX0 92 (-2305843009213693952) ∈ TB := TB_of (mt_5 (i := 181) (by decide +kernel)) (by decide +kernel)
theorem kc_RX10_271 : Cond.constant RX10 271 (1103515245) ∈ TB := TB_of (mt_7 (i := 166) (by decide +kernel)) (by decide +kernel)
theorem kc_RX10_330 : Cond.constant RX10 330 (-2000000000) ∈ TB := TB_of (mt_8 (i := 57) (by decide +kernel)) (by decide +kernel)
theorem kc_RX10_344 : Cond.constant RX10 344 (2000000000) ∈ TB := TB_of (mt_8 (i := 102) (by decide +kernel)) (by decide +kernel)
theorem kc_RX4_71 : Cond.constant RX4 71 (1103515245) ∈ TB := TB_of (mt_2 (i := 174) (by decide +kernel)) (by decide +kernel)
theorem kc_RX9_318 : Cond.constantLong RX9 318 (-1) ∈ TB := TB_of (mt_6 (i := 12) (by decide +kernel)) (by decide +kernel)
theorem ca_RX2_34 : CA RX2 34 := ⟨TB_of (mt_3 (i := 59) (by decide +kernel)) (by decide +kernel), TB_of (mt_3 (i := 16) (by decide +kernel)) (by decide +kernel), TB_of (mt_3 (i := 15) (by decide +kernel)) (by decide +kernel), TB_of (mt_1 (i := 13) (by decide +kernel)) (by decide +kernel)⟩
theorem ca_RX4_28 : CA RX4 28 := ⟨TB_of (mt_3 (i := 14) (by decide +kernel)) (by decide +kernel), TB_of (mt_3 (i := 16) (by decide +kernel)) (by decide +kernel), TB_of (mt_3 (i := 15) (by decide +kernel)) (by decide +kernel), TB_of (mt_1 (i := 13) (by decide +kernel)) (by decide +kernel)⟩
theorem cm_RX2_64 : CM RX2 64 Lib.Math.max.name Lib.Math.max.code := ⟨TB_of (mt_2 (i := 144) (by decide +kernel)) (by decide +kernel), TB_of (mt_2 (i := 145) (by decide +kernel)) (by decide +kernel), TB_of (mt_1 (i := 18) (by decide +kernel)) (by decide +kernel), TB_of (mt_2 (i := 146) (by decide +kernel)) (by decide +kernel)⟩
theorem cm_RX4_76 : CM RX4 76 Lib.Math.min.name Lib.Math.min.code := ⟨TB_of (mt_3 (i := 80) (by decide +kernel)) (by decide +kernel), TB_of (mt_3 (i := 81) (by decide +kernel)) (by decide +kernel), TB_of (mt_1 (i := 18) (by decide +kernel)) (by decide +kernel), TB_of (mt_3 (i := 82) (by decide +kernel)) (by decide +kernel)⟩
theorem cm_RX6_109 : CM RX6 109 Lib.Math.max.name Lib.Math.max.code := ⟨TB_of (mt_5 (i := 31) (by decide +kernel)) (by decide +kernel), TB_of (mt_2 (i := 145) (by decide +kernel)) (by decide +kernel), TB_of (mt_1 (i := 18) (by decide +kernel)) (by decide +kernel), TB_of (mt_2 (i := 146) (by decide +kernel)) (by decide +kernel)⟩
theorem cm_RX6_95 : CM RX6 95 Lib.Math.min.name Lib.Math.min.code := ⟨TB_of (mt_5 (i := 148) (by decide +kernel)) (by decide +kernel), TB_of (mt_3 (i := 81) (by decide +kernel)) (by decide +kernel), TB_of (mt_1 (i := 18) (by decide +kernel)) (by decide +kernel), TB_of (mt_3 (i := 82) (by decide +kernel)) (by decide +kernel)⟩
theorem cn_RX0_54 : CSN RX0 RX9 54 yX9_put cX9_put 3 3 none := ⟨TB_of (mt_2 (i := 99) (by decide +kernel)) (by decide +kernel), List.mem_filter.mpr ⟨mt_5 (i := 164) (by decide +kernel), by decide +kernel⟩, TB_of (mt_2 (i := 98) (by decide +kernel)) (by decide +kernel), TB_of (mt_1 (i := 1) (by decide +kernel)) (by decide +kernel), by decide, by decide, by decide +kernel⟩
theorem cn_RX0_83 : CSN RX0 RX9 83 yX9_put_ cX9_put_ 4 3 none := ⟨TB_of (mt_5 (i := 175) (by decide +kernel)) (by decide +kernel), List.mem_filter.mpr ⟨mt_5 (i := 173) (by decide +kernel), by decide +kernel⟩, TB_of (mt_5 (i := 174) (by decide +kernel)) (by decide +kernel), TB_of (mt_1 (i := 1) (by decide +kernel)) (by decide +kernel), by decide, by decide, by decide +kernel⟩
theorem cn_RX0_88 : CSN RX0 RX9 88 yX9_at_ cX9_at_ 2 2 (some .long) := ⟨TB_of (mt_5 (i := 192) (by decide +kernel)) (by decide +kernel), List.mem_filter.mpr ⟨mt_5 (i := 190) (by decide +kernel), by decide +kernel⟩, TB_of (mt_5 (i := 191) (by decide +kernel)) (by decide +kernel), TB_of (mt_1 (i := 1) (by decide +kernel)) (by decide +kernel), by decide, by decide, by decide +kernel⟩
theorem cn_RX0_97 : CSN RX0 RX9 97 yX9_at cX9_at 2 2 (some .int) := ⟨TB_of (mt_2 (i := 130) (by decide +kernel)) (by decide +kernel), List.mem_filter.mpr ⟨mt_5 (i := 185) (by decide +kernel), by decide +kernel⟩, TB_of (mt_2 (i := 129) (by decide +kernel)) (by decide +kernel), TB_of (mt_1 (i := 1) (by decide +kernel)) (by decide +kernel), by decide, by decide, by decide +kernel⟩
theorem cn_RX2_40 : CSN RX2 RX9 40 yX9_put cX9_put 3 3 none := ⟨TB_of (mt_2 (i := 99) (by decide +kernel)) (by decide +kernel), List.mem_filter.mpr ⟨mt_2 (i := 131) (by decide +kernel), by decide +kernel⟩, TB_of (mt_2 (i := 98) (by decide +kernel)) (by decide +kernel), TB_of (mt_1 (i := 1) (by decide +kernel)) (by decide +kernel), by decide, by decide, by decide +kernel⟩
theorem cn_RX2_56 : CSN RX2 RX9 56 yX9_at cX9_at 2 2 (some .int) := ⟨TB_of (mt_2 (i := 130) (by decide +kernel)) (by decide +kernel), List.mem_filter.mpr ⟨mt_2 (i := 136) (by decide +kernel), by decide +kernel⟩, TB_of (mt_2 (i := 129) (by decide +kernel)) (by decide +kernel), TB_of (mt_1 (i := 1) (by decide +kernel)) (by decide +kernel), by decide, by decide, by decide +kernel⟩
theorem cn_RX3_120 : CSN RX3 RX9 120 yX9_put cX9_put 3 3 none := ⟨TB_of (mt_2 (i := 99) (by decide +kernel)) (by decide +kernel), List.mem_filter.mpr ⟨mt_4 (i := 177) (by decide +kernel), by decide +kernel⟩, TB_of (mt_2 (i := 98) (by decide +kernel)) (by decide +kernel), TB_of (mt_1 (i := 1) (by decide +kernel)) (by decide +kernel), by decide, by decide, by decide +kernel⟩
theorem cn_RX3_124 : CSN RX3 RX9 124 yX9_at cX9_at 2 2 (some .int) := ⟨TB_of (mt_2 (i := 130) (by decide +kernel)) (by decide +kernel), List.mem_filter.mpr ⟨mt_4 (i := 212) (by decide +kernel), by decide +kernel⟩, TB_of (mt_2 (i := 129) (by decide +kernel)) (by decide +kernel), TB_of (mt_1 (i := 1) (by decide +kernel)) (by decide +kernel), by decide, by decide, by decide +kernel⟩
theorem cn_RX4_49 : CSN RX4 RX9 49 yX9_at cX9_at 2 2 (some .int) := ⟨TB_of (mt_2 (i := 130) (by decide +kernel)) (by decide +kernel), List.mem_filter.mpr ⟨mt_2 (i := 128) (by decide +kernel), by decide +kernel⟩, TB_of (mt_2 (i := 129) (by decide +kernel)) (by decide +kernel), TB_of (mt_1 (i := 1) (by decide +kernel)) (by decide +kernel), by decide, by decide, by decide +kernel⟩
theorem cn_RX4_53 : CSN RX4 RX9 53 yX9_put cX9_put 3 3 none := ⟨TB_of (mt_2 (i := 99) (by decide +kernel)) (by decide +kernel), List.mem_filter.mpr ⟨mt_3 (i := 25) (by decide +kernel), by decide +kernel⟩, TB_of (mt_2 (i := 98) (by decide +kernel)) (by decide +kernel), TB_of (mt_1 (i := 1) (by decide +kernel)) (by decide +kernel), by decide, by decide, by decide +kernel⟩
theorem cn_RX5_35 : CSN RX5 RX9 35 yX9_at cX9_at 2 2 (some .int) := ⟨TB_of (mt_2 (i := 130) (by decide +kernel)) (by decide +kernel), List.mem_filter.mpr ⟨mt_2 (i := 217) (by decide +kernel), by decide +kernel⟩, TB_of (mt_2 (i := 129) (by decide +kernel)) (by decide +kernel), TB_of (mt_1 (i := 1) (by decide +kernel)) (by decide +kernel), by decide, by decide, by decide +kernel⟩
theorem cn_RX5_39 : CSN RX5 RX9 39 yX9_put cX9_put 3 3 none := ⟨TB_of (mt_2 (i := 99) (by decide +kernel)) (by decide +kernel), List.mem_filter.mpr ⟨mt_2 (i := 218) (by decide +kernel), by decide +kernel⟩, TB_of (mt_2 (i := 98) (by decide +kernel)) (by decide +kernel), TB_of (mt_1 (i := 1) (by decide +kernel)) (by decide +kernel), by decide, by decide, by decide +kernel⟩
theorem cn_RX6_39 : CSN RX6 RX9 39 yX9_put cX9_put 3 3 none := ⟨TB_of (mt_2 (i := 99) (by decide +kernel)) (by decide +kernel), List.mem_filter.mpr ⟨mt_2 (i := 147) (by decide +kernel), by decide +kernel⟩, TB_of (mt_2 (i := 98) (by decide +kernel)) (by decide +kernel), TB_of (mt_1 (i := 1) (by decide +kernel)) (by decide +kernel), by decide, by decide, by decide +kernel⟩
theorem cn_RX6_55 : CSN RX6 RX9 55 yX9_at cX9_at 2 2 (some .int) := ⟨TB_of (mt_2 (i := 130) (by decide +kernel)) (by decide +kernel), List.mem_filter.mpr ⟨mt_2 (i := 156) (by decide +kernel), by decide +kernel⟩, TB_of (mt_2 (i := 129) (by decide +kernel)) (by decide +kernel), TB_of (mt_1 (i := 1) (by decide +kernel)) (by decide +kernel), by decide, by decide, by decide +kernel⟩
theorem cn_RX7_38 : CSN RX7 RX9 38 yX9_at cX9_at 2 2 (some .int) := ⟨TB_of (mt_2 (i := 130) (by decide +kernel)) (by decide +kernel), List.mem_filter.mpr ⟨mt_3 (i := 104) (by decide +kernel), by decide +kernel⟩, TB_of (mt_2 (i := 129) (by decide +kernel)) (by decide +kernel), TB_of (mt_1 (i := 1) (by decide +kernel)) (by decide +kernel), by decide, by decide, by decide +kernel⟩
theorem cs_RX0_44 : CS RX0 44 yJ7_fill_53178 cJ7_fill_53178 4 2 none := ⟨TB_of (mt_2 (i := 168) (by decide +kernel)) (by decide +kernel), TB_of (mt_5 (i := 162) (by decide +kernel)) (by decide +kernel), TB_of (mt_2 (i := 167) (by decide +kernel)) (by decide +kernel), TB_of (mt_1 (i := 27) (by decide +kernel)) (by decide +kernel), by decide, by decide, by decide +kernel⟩
theorem cs_RX0_94 : CS RX0 94 yJ7_fill_d0a16 cJ7_fill_d0a16 5 2 none := ⟨TB_of (mt_5 (i := 184) (by decide +kernel)) (by decide +kernel), TB_of (mt_5 (i := 182) (by decide +kernel)) (by decide +kernel), TB_of (mt_5 (i := 183) (by decide +kernel)) (by decide +kernel), TB_of (mt_1 (i := 27) (by decide +kernel)) (by decide +kernel), by decide, by decide, by decide +kernel⟩
theorem cs_RX10_117 : CS RX10 117 yX10_isOf cX10_isOf 2 2 (some .boolean) := ⟨TB_of (mt_7 (i := 61) (by decide +kernel)) (by decide +kernel), TB_of (mt_7 (i := 59) (by decide +kernel)) (by decide +kernel), TB_of (mt_7 (i := 60) (by decide +kernel)) (by decide +kernel), TB_of (mt_1 (i := 12) (by decide +kernel)) (by decide +kernel), by decide, by decide, by decide +kernel⟩
theorem cs_RX10_249 : CS RX10 249 yX10_greater cX10_greater 2 2 (some .int) := ⟨TB_of (mt_7 (i := 153) (by decide +kernel)) (by decide +kernel), TB_of (mt_7 (i := 151) (by decide +kernel)) (by decide +kernel), TB_of (mt_7 (i := 152) (by decide +kernel)) (by decide +kernel), TB_of (mt_1 (i := 12) (by decide +kernel)) (by decide +kernel), by decide, by decide, by decide +kernel⟩
theorem cs_RX10_321 : CS RX10 321 yX10_bits cX10_bits 3 1 (some .int) := ⟨TB_of (mt_8 (i := 32) (by decide +kernel)) (by decide +kernel), TB_of (mt_8 (i := 30) (by decide +kernel)) (by decide +kernel), TB_of (mt_8 (i := 31) (by decide +kernel)) (by decide +kernel), TB_of (mt_1 (i := 12) (by decide +kernel)) (by decide +kernel), by decide, by decide, by decide +kernel⟩
theorem cs_RX10_66 : CS RX10 66 yX10_isIn cX10_isIn 3 3 (some .boolean) := ⟨TB_of (mt_6 (i := 221) (by decide +kernel)) (by decide +kernel), TB_of (mt_6 (i := 219) (by decide +kernel)) (by decide +kernel), TB_of (mt_6 (i := 220) (by decide +kernel)) (by decide +kernel), TB_of (mt_1 (i := 12) (by decide +kernel)) (by decide +kernel), by decide, by decide, by decide +kernel⟩
theorem cs_RX2_69 : CS RX2 69 yX2_joined cX2_joined 4 2 (some .int) := ⟨TB_of (mt_2 (i := 143) (by decide +kernel)) (by decide +kernel), TB_of (mt_2 (i := 141) (by decide +kernel)) (by decide +kernel), TB_of (mt_2 (i := 142) (by decide +kernel)) (by decide +kernel), TB_of (mt_1 (i := 3) (by decide +kernel)) (by decide +kernel), by decide, by decide, by decide +kernel⟩
theorem cs_RX5_47 : CS RX5 47 yJ6_bitCount_0f7a4 cJ6_bitCount_0f7a4 1 1 (some .int) := ⟨TB_of (mt_2 (i := 234) (by decide +kernel)) (by decide +kernel), TB_of (mt_2 (i := 232) (by decide +kernel)) (by decide +kernel), TB_of (mt_2 (i := 233) (by decide +kernel)) (by decide +kernel), TB_of (mt_1 (i := 24) (by decide +kernel)) (by decide +kernel), by decide, by decide, by decide +kernel⟩
theorem cs_RX6_59 : CS RX6 59 yJ7_fill_53178 cJ7_fill_53178 4 2 none := ⟨TB_of (mt_2 (i := 168) (by decide +kernel)) (by decide +kernel), TB_of (mt_2 (i := 166) (by decide +kernel)) (by decide +kernel), TB_of (mt_2 (i := 167) (by decide +kernel)) (by decide +kernel), TB_of (mt_1 (i := 27) (by decide +kernel)) (by decide +kernel), by decide, by decide, by decide +kernel⟩
theorem cs_RX7_42 : CS RX7 42 yX7_isLetter cX7_isLetter 1 1 (some .boolean) := ⟨TB_of (mt_3 (i := 107) (by decide +kernel)) (by decide +kernel), TB_of (mt_3 (i := 105) (by decide +kernel)) (by decide +kernel), TB_of (mt_3 (i := 106) (by decide +kernel)) (by decide +kernel), TB_of (mt_1 (i := 8) (by decide +kernel)) (by decide +kernel), by decide, by decide, by decide +kernel⟩
theorem cs_RX7_61 : CS RX7 61 yX7_isDigit cX7_isDigit 1 1 (some .boolean) := ⟨TB_of (mt_3 (i := 179) (by decide +kernel)) (by decide +kernel), TB_of (mt_3 (i := 177) (by decide +kernel)) (by decide +kernel), TB_of (mt_3 (i := 178) (by decide +kernel)) (by decide +kernel), TB_of (mt_1 (i := 8) (by decide +kernel)) (by decide +kernel), by decide, by decide, by decide +kernel⟩
theorem cs_RX9_158 : CS RX9 158 yX9_at cX9_at 2 2 (some .int) := ⟨TB_of (mt_2 (i := 130) (by decide +kernel)) (by decide +kernel), TB_of (mt_3 (i := 42) (by decide +kernel)) (by decide +kernel), TB_of (mt_2 (i := 129) (by decide +kernel)) (by decide +kernel), TB_of (mt_1 (i := 1) (by decide +kernel)) (by decide +kernel), by decide, by decide, by decide +kernel⟩
theorem cs_RX9_310 : CS RX9 310 yX9_setsWithin cX9_setsWithin 4 1 (some .long) := ⟨TB_of (mt_6 (i := 15) (by decide +kernel)) (by decide +kernel), TB_of (mt_6 (i := 13) (by decide +kernel)) (by decide +kernel), TB_of (mt_6 (i := 14) (by decide +kernel)) (by decide +kernel), TB_of (mt_1 (i := 1) (by decide +kernel)) (by decide +kernel), by decide, by decide, by decide +kernel⟩
theorem cs_RX9_320 : CS RX9 320 yJ6_bitCount_0f7a4 cJ6_bitCount_0f7a4 1 1 (some .int) := ⟨TB_of (mt_2 (i := 234) (by decide +kernel)) (by decide +kernel), TB_of (mt_6 (i := 19) (by decide +kernel)) (by decide +kernel), TB_of (mt_2 (i := 233) (by decide +kernel)) (by decide +kernel), TB_of (mt_1 (i := 24) (by decide +kernel)) (by decide +kernel), by decide, by decide, by decide +kernel⟩
theorem cs_RX9_89 : CS RX9 89 yX9_put cX9_put 3 3 none := ⟨TB_of (mt_2 (i := 99) (by decide +kernel)) (by decide +kernel), TB_of (mt_2 (i := 97) (by decide +kernel)) (by decide +kernel), TB_of (mt_2 (i := 98) (by decide +kernel)) (by decide +kernel), TB_of (mt_1 (i := 1) (by decide +kernel)) (by decide +kernel), by decide, by decide, by decide +kernel⟩
theorem cv_RX0_107 : CV RX0 RX0 107 yX0_worth cX0_worth 3 2 (some .long) := ⟨TB_of (mt_5 (i := 196) (by decide +kernel)) (by decide +kernel), TB_of (mt_5 (i := 193) (by decide +kernel)) (by decide +kernel), TB_of (mt_5 (i := 195) (by decide +kernel)) (by decide +kernel), TB_of (ms_of (i := 37) (by decide +kernel)) (by decide +kernel), TB_of (mt_1 (i := 6) (by decide +kernel)) (by decide +kernel), rfl, by decide, by decide, by decide +kernel⟩
theorem cv_RX0_50 : CV RX0 RX4 50 yX4_ofThing cX4_ofThing 3 2 (some .int) := ⟨TB_of (mt_2 (i := 135) (by decide +kernel)) (by decide +kernel), TB_of (mt_5 (i := 163) (by decide +kernel)) (by decide +kernel), TB_of (mt_2 (i := 133) (by decide +kernel)) (by decide +kernel), TB_of (mt_2 (i := 134) (by decide +kernel)) (by decide +kernel), TB_of (mt_1 (i := 2) (by decide +kernel)) (by decide +kernel), rfl, by decide, by decide, by decide +kernel⟩
theorem cv_RX0_58 : CV RX0 RX0 58 yX0_setWorths cX0_setWorths 9 1 none := ⟨TB_of (mt_5 (i := 168) (by decide +kernel)) (by decide +kernel), TB_of (mt_5 (i := 165) (by decide +kernel)) (by decide +kernel), TB_of (mt_5 (i := 167) (by decide +kernel)) (by decide +kernel), TB_of (ms_of (i := 34) (by decide +kernel)) (by decide +kernel), TB_of (mt_1 (i := 6) (by decide +kernel)) (by decide +kernel), rfl, by decide, by decide, by decide +kernel⟩
theorem cv_RX0_72 : CV RX0 RX6 72 yX6_likes cX6_likes 3 2 (some .int) := ⟨TB_of (mt_2 (i := 155) (by decide +kernel)) (by decide +kernel), TB_of (mt_5 (i := 170) (by decide +kernel)) (by decide +kernel), TB_of (mt_2 (i := 153) (by decide +kernel)) (by decide +kernel), TB_of (mt_2 (i := 154) (by decide +kernel)) (by decide +kernel), TB_of (mt_1 (i := 4) (by decide +kernel)) (by decide +kernel), rfl, by decide, by decide, by decide +kernel⟩
theorem cv_RX0_79 : CV RX0 RX6 79 yX6_calls cX6_calls 3 2 (some .boolean) := ⟨TB_of (mt_2 (i := 183) (by decide +kernel)) (by decide +kernel), TB_of (mt_5 (i := 172) (by decide +kernel)) (by decide +kernel), TB_of (mt_2 (i := 181) (by decide +kernel)) (by decide +kernel), TB_of (mt_2 (i := 182) (by decide +kernel)) (by decide +kernel), TB_of (mt_1 (i := 4) (by decide +kernel)) (by decide +kernel), rfl, by decide, by decide, by decide +kernel⟩
theorem cv_RX10_103 : CV RX10 RX10 103 yX10_place cX10_place 1 0 (some .int) := ⟨TB_of (mt_7 (i := 30) (by decide +kernel)) (by decide +kernel), TB_of (mt_7 (i := 27) (by decide +kernel)) (by decide +kernel), TB_of (mt_7 (i := 29) (by decide +kernel)) (by decide +kernel), TB_of (ms_of (i := 51) (by decide +kernel)) (by decide +kernel), TB_of (mt_1 (i := 12) (by decide +kernel)) (by decide +kernel), rfl, by decide, by decide, by decide +kernel⟩
theorem cv_RX10_106 : CV RX10 RX10 106 yX10_wrong cX10_wrong 2 1 none := ⟨TB_of (mt_7 (i := 9) (by decide +kernel)) (by decide +kernel), TB_of (mt_7 (i := 6) (by decide +kernel)) (by decide +kernel), TB_of (mt_7 (i := 8) (by decide +kernel)) (by decide +kernel), TB_of (ms_of (i := 47) (by decide +kernel)) (by decide +kernel), TB_of (mt_1 (i := 12) (by decide +kernel)) (by decide +kernel), rfl, by decide, by decide, by decide +kernel⟩
theorem cv_RX10_114 : CV RX10 RX10 114 yX10_figures cX10_figures 5 2 (some .int) := ⟨TB_of (mt_7 (i := 26) (by decide +kernel)) (by decide +kernel), TB_of (mt_7 (i := 23) (by decide +kernel)) (by decide +kernel), TB_of (mt_7 (i := 25) (by decide +kernel)) (by decide +kernel), TB_of (ms_of (i := 50) (by decide +kernel)) (by decide +kernel), TB_of (mt_1 (i := 12) (by decide +kernel)) (by decide +kernel), rfl, by decide, by decide, by decide +kernel⟩
theorem cv_RX10_122 : CV RX10 RX10 122 yX10_thingAt cX10_thingAt 3 1 (some .int) := ⟨TB_of (mt_7 (i := 91) (by decide +kernel)) (by decide +kernel), TB_of (mt_7 (i := 88) (by decide +kernel)) (by decide +kernel), TB_of (mt_7 (i := 90) (by decide +kernel)) (by decide +kernel), TB_of (ms_of (i := 61) (by decide +kernel)) (by decide +kernel), TB_of (mt_1 (i := 12) (by decide +kernel)) (by decide +kernel), rfl, by decide, by decide, by decide +kernel⟩
theorem cv_RX10_171 : CV RX10 RX10 171 yX10_putsAside cX10_putsAside 2 0 none := ⟨TB_of (mt_6 (i := 229) (by decide +kernel)) (by decide +kernel), TB_of (mt_6 (i := 226) (by decide +kernel)) (by decide +kernel), TB_of (mt_6 (i := 228) (by decide +kernel)) (by decide +kernel), TB_of (ms_of (i := 42) (by decide +kernel)) (by decide +kernel), TB_of (mt_1 (i := 12) (by decide +kernel)) (by decide +kernel), rfl, by decide, by decide, by decide +kernel⟩
theorem cv_RX10_174 : CV RX10 RX10 174 yX10_begins cX10_begins 1 0 none := ⟨TB_of (mt_6 (i := 233) (by decide +kernel)) (by decide +kernel), TB_of (mt_6 (i := 230) (by decide +kernel)) (by decide +kernel), TB_of (mt_6 (i := 232) (by decide +kernel)) (by decide +kernel), TB_of (ms_of (i := 43) (by decide +kernel)) (by decide +kernel), TB_of (mt_1 (i := 12) (by decide +kernel)) (by decide +kernel), rfl, by decide, by decide, by decide +kernel⟩
theorem cv_RX10_246 : CV RX10 RX10 246 yX10_ofOne cX10_ofOne 3 2 (some .int) := ⟨TB_of (mt_7 (i := 146) (by decide +kernel)) (by decide +kernel), TB_of (mt_7 (i := 143) (by decide +kernel)) (by decide +kernel), TB_of (mt_7 (i := 145) (by decide +kernel)) (by decide +kernel), TB_of (ms_of (i := 70) (by decide +kernel)) (by decide +kernel), TB_of (mt_1 (i := 12) (by decide +kernel)) (by decide +kernel), rfl, by decide, by decide, by decide +kernel⟩
theorem cv_RX10_256 : CV RX10 RX10 256 yX10_rings cX10_rings 3 2 (some .boolean) := ⟨TB_of (mt_7 (i := 178) (by decide +kernel)) (by decide +kernel), TB_of (mt_7 (i := 175) (by decide +kernel)) (by decide +kernel), TB_of (mt_7 (i := 177) (by decide +kernel)) (by decide +kernel), TB_of (ms_of (i := 77) (by decide +kernel)) (by decide +kernel), TB_of (mt_1 (i := 12) (by decide +kernel)) (by decide +kernel), rfl, by decide, by decide, by decide +kernel⟩
theorem cv_RX10_259 : CV RX10 RX10 259 yX10_canHave cX10_canHave 3 2 (some .boolean) := ⟨TB_of (mt_7 (i := 174) (by decide +kernel)) (by decide +kernel), TB_of (mt_7 (i := 171) (by decide +kernel)) (by decide +kernel), TB_of (mt_7 (i := 173) (by decide +kernel)) (by decide +kernel), TB_of (ms_of (i := 76) (by decide +kernel)) (by decide +kernel), TB_of (mt_1 (i := 12) (by decide +kernel)) (by decide +kernel), rfl, by decide, by decide, by decide +kernel⟩
theorem cv_RX10_262 : CV RX10 RX10 262 yX10_beginsDay cX10_beginsDay 2 0 none := ⟨TB_of (mt_7 (i := 161) (by decide +kernel)) (by decide +kernel), TB_of (mt_7 (i := 158) (by decide +kernel)) (by decide +kernel), TB_of (mt_7 (i := 160) (by decide +kernel)) (by decide +kernel), TB_of (ms_of (i := 73) (by decide +kernel)) (by decide +kernel), TB_of (mt_1 (i := 12) (by decide +kernel)) (by decide +kernel), rfl, by decide, by decide, by decide +kernel⟩
theorem cv_RX10_265 : CV RX10 RX10 265 yX10_draw cX10_draw 2 1 (some .int) := ⟨TB_of (mt_7 (i := 165) (by decide +kernel)) (by decide +kernel), TB_of (mt_7 (i := 162) (by decide +kernel)) (by decide +kernel), TB_of (mt_7 (i := 164) (by decide +kernel)) (by decide +kernel), TB_of (ms_of (i := 74) (by decide +kernel)) (by decide +kernel), TB_of (mt_1 (i := 12) (by decide +kernel)) (by decide +kernel), rfl, by decide, by decide, by decide +kernel⟩
theorem cv_RX10_268 : CV RX10 RX10 268 yX10_ledPast cX10_ledPast 5 1 (some .int) := ⟨TB_of (mt_7 (i := 170) (by decide +kernel)) (by decide +kernel), TB_of (mt_7 (i := 167) (by decide +kernel)) (by decide +kernel), TB_of (mt_7 (i := 169) (by decide +kernel)) (by decide +kernel), TB_of (ms_of (i := 75) (by decide +kernel)) (by decide +kernel), TB_of (mt_1 (i := 12) (by decide +kernel)) (by decide +kernel), rfl, by decide, by decide, by decide +kernel⟩
theorem cv_RX10_285 : CV RX10 RX10 285 yX10_isThing cX10_isThing 2 1 (some .boolean) := ⟨TB_of (mt_7 (i := 134) (by decide +kernel)) (by decide +kernel), TB_of (mt_7 (i := 131) (by decide +kernel)) (by decide +kernel), TB_of (mt_7 (i := 133) (by decide +kernel)) (by decide +kernel), TB_of (ms_of (i := 67) (by decide +kernel)) (by decide +kernel), TB_of (mt_1 (i := 12) (by decide +kernel)) (by decide +kernel), rfl, by decide, by decide, by decide +kernel⟩
theorem cv_RX10_300 : CV RX10 RX10 300 yX10_isVisitor cX10_isVisitor 2 1 (some .boolean) := ⟨TB_of (mt_7 (i := 198) (by decide +kernel)) (by decide +kernel), TB_of (mt_7 (i := 195) (by decide +kernel)) (by decide +kernel), TB_of (mt_7 (i := 197) (by decide +kernel)) (by decide +kernel), TB_of (ms_of (i := 81) (by decide +kernel)) (by decide +kernel), TB_of (mt_1 (i := 12) (by decide +kernel)) (by decide +kernel), rfl, by decide, by decide, by decide +kernel⟩
theorem cv_RX10_306 : CV RX10 RX10 306 yX10_remembers cX10_remembers 2 0 none := ⟨TB_of (mt_7 (i := 214) (by decide +kernel)) (by decide +kernel), TB_of (mt_7 (i := 211) (by decide +kernel)) (by decide +kernel), TB_of (mt_7 (i := 213) (by decide +kernel)) (by decide +kernel), TB_of (ms_of (i := 83) (by decide +kernel)) (by decide +kernel), TB_of (mt_1 (i := 12) (by decide +kernel)) (by decide +kernel), rfl, by decide, by decide, by decide +kernel⟩
theorem cv_RX10_327 : CV RX10 RX10 327 yX10_stepsOn cX10_stepsOn 7 1 (some .int) := ⟨TB_of (mt_8 (i := 56) (by decide +kernel)) (by decide +kernel), TB_of (mt_8 (i := 53) (by decide +kernel)) (by decide +kernel), TB_of (mt_8 (i := 55) (by decide +kernel)) (by decide +kernel), TB_of (ms_of (i := 91) (by decide +kernel)) (by decide +kernel), TB_of (mt_1 (i := 12) (by decide +kernel)) (by decide +kernel), rfl, by decide, by decide, by decide +kernel⟩
theorem cv_RX10_331 : CV RX10 RX10 331 yX10_dearestFrom cX10_dearestFrom 4 1 (some .int) := ⟨TB_of (mt_8 (i := 52) (by decide +kernel)) (by decide +kernel), TB_of (mt_8 (i := 49) (by decide +kernel)) (by decide +kernel), TB_of (mt_8 (i := 51) (by decide +kernel)) (by decide +kernel), TB_of (ms_of (i := 90) (by decide +kernel)) (by decide +kernel), TB_of (mt_1 (i := 12) (by decide +kernel)) (by decide +kernel), rfl, by decide, by decide, by decide +kernel⟩
theorem cv_RX10_341 : CV RX10 RX10 341 yX10_wanted cX10_wanted 6 0 (some .int) := ⟨TB_of (mt_8 (i := 97) (by decide +kernel)) (by decide +kernel), TB_of (mt_8 (i := 94) (by decide +kernel)) (by decide +kernel), TB_of (mt_8 (i := 96) (by decide +kernel)) (by decide +kernel), TB_of (ms_of (i := 94) (by decide +kernel)) (by decide +kernel), TB_of (mt_1 (i := 12) (by decide +kernel)) (by decide +kernel), rfl, by decide, by decide, by decide +kernel⟩
theorem cv_RX10_345 : CV RX10 RX10 345 yX10_logged cX10_logged 3 2 (some .int) := ⟨TB_of (mt_8 (i := 142) (by decide +kernel)) (by decide +kernel), TB_of (mt_8 (i := 139) (by decide +kernel)) (by decide +kernel), TB_of (mt_8 (i := 141) (by decide +kernel)) (by decide +kernel), TB_of (ms_of (i := 96) (by decide +kernel)) (by decide +kernel), TB_of (mt_1 (i := 12) (by decide +kernel)) (by decide +kernel), rfl, by decide, by decide, by decide +kernel⟩
theorem cv_RX10_348 : CV RX10 RX10 348 yX10_rowsOf cX10_rowsOf 5 2 (some .int) := ⟨TB_of (mt_8 (i := 138) (by decide +kernel)) (by decide +kernel), TB_of (mt_8 (i := 135) (by decide +kernel)) (by decide +kernel), TB_of (mt_8 (i := 137) (by decide +kernel)) (by decide +kernel), TB_of (ms_of (i := 95) (by decide +kernel)) (by decide +kernel), TB_of (mt_1 (i := 12) (by decide +kernel)) (by decide +kernel), rfl, by decide, by decide, by decide +kernel⟩
theorem cv_RX10_355 : CV RX10 RX10 355 yX10_shown cX10_shown 3 0 (some .int) := ⟨TB_of (mt_8 (i := 170) (by decide +kernel)) (by decide +kernel), TB_of (mt_8 (i := 167) (by decide +kernel)) (by decide +kernel), TB_of (mt_8 (i := 169) (by decide +kernel)) (by decide +kernel), TB_of (ms_of (i := 97) (by decide +kernel)) (by decide +kernel), TB_of (mt_1 (i := 12) (by decide +kernel)) (by decide +kernel), rfl, by decide, by decide, by decide +kernel⟩
theorem cv_RX10_358 : CV RX10 RX10 358 yX10_together cX10_together 4 1 (some .int) := ⟨TB_of (mt_8 (i := 174) (by decide +kernel)) (by decide +kernel), TB_of (mt_8 (i := 171) (by decide +kernel)) (by decide +kernel), TB_of (mt_8 (i := 173) (by decide +kernel)) (by decide +kernel), TB_of (ms_of (i := 98) (by decide +kernel)) (by decide +kernel), TB_of (mt_1 (i := 12) (by decide +kernel)) (by decide +kernel), rfl, by decide, by decide, by decide +kernel⟩
theorem cv_RX10_70 : CV RX10 RX10 70 yX10_of cX10_of 3 2 (some .int) := ⟨TB_of (mt_7 (i := 95) (by decide +kernel)) (by decide +kernel), TB_of (mt_7 (i := 92) (by decide +kernel)) (by decide +kernel), TB_of (mt_7 (i := 94) (by decide +kernel)) (by decide +kernel), TB_of (ms_of (i := 62) (by decide +kernel)) (by decide +kernel), TB_of (mt_1 (i := 12) (by decide +kernel)) (by decide +kernel), rfl, by decide, by decide, by decide +kernel⟩
theorem cv_RX10_86 : CV RX10 RX10 86 yX10_letter cX10_letter 2 1 (some .int) := ⟨TB_of (mt_7 (i := 5) (by decide +kernel)) (by decide +kernel), TB_of (mt_7 (i := 2) (by decide +kernel)) (by decide +kernel), TB_of (mt_7 (i := 4) (by decide +kernel)) (by decide +kernel), TB_of (ms_of (i := 46) (by decide +kernel)) (by decide +kernel), TB_of (mt_1 (i := 12) (by decide +kernel)) (by decide +kernel), rfl, by decide, by decide, by decide +kernel⟩
theorem cv_RX10_90 : CV RX10 RX10 90 yX10_skip cX10_skip 1 0 none := ⟨TB_of (mt_7 (i := 1) (by decide +kernel)) (by decide +kernel), TB_of (mt_6 (i := 238) (by decide +kernel)) (by decide +kernel), TB_of (mt_7 (i := 0) (by decide +kernel)) (by decide +kernel), TB_of (ms_of (i := 45) (by decide +kernel)) (by decide +kernel), TB_of (mt_1 (i := 12) (by decide +kernel)) (by decide +kernel), rfl, by decide, by decide, by decide +kernel⟩
theorem cv_RX2_44 : CV RX2 RX4 44 yX4_ofVisitor cX4_ofVisitor 3 2 (some .int) := ⟨TB_of (mt_2 (i := 127) (by decide +kernel)) (by decide +kernel), TB_of (mt_2 (i := 124) (by decide +kernel)) (by decide +kernel), TB_of (mt_2 (i := 125) (by decide +kernel)) (by decide +kernel), TB_of (mt_2 (i := 126) (by decide +kernel)) (by decide +kernel), TB_of (mt_1 (i := 2) (by decide +kernel)) (by decide +kernel), rfl, by decide, by decide, by decide +kernel⟩
theorem cv_RX2_50 : CV RX2 RX4 50 yX4_ofThing cX4_ofThing 3 2 (some .int) := ⟨TB_of (mt_2 (i := 135) (by decide +kernel)) (by decide +kernel), TB_of (mt_2 (i := 132) (by decide +kernel)) (by decide +kernel), TB_of (mt_2 (i := 133) (by decide +kernel)) (by decide +kernel), TB_of (mt_2 (i := 134) (by decide +kernel)) (by decide +kernel), TB_of (mt_1 (i := 2) (by decide +kernel)) (by decide +kernel), rfl, by decide, by decide, by decide +kernel⟩
theorem cv_RX2_60 : CV RX2 RX2 60 yX2_holds cX2_holds 10 3 (some .boolean) := ⟨TB_of (mt_2 (i := 140) (by decide +kernel)) (by decide +kernel), TB_of (mt_2 (i := 137) (by decide +kernel)) (by decide +kernel), TB_of (mt_2 (i := 139) (by decide +kernel)) (by decide +kernel), TB_of (ms_of (i := 2) (by decide +kernel)) (by decide +kernel), TB_of (mt_1 (i := 3) (by decide +kernel)) (by decide +kernel), rfl, by decide, by decide, by decide +kernel⟩
theorem cv_RX3_128 : CV RX3 RX2 128 yX2_addOperation cX2_addOperation 2 1 none := ⟨TB_of (mt_4 (i := 191) (by decide +kernel)) (by decide +kernel), TB_of (mt_4 (i := 188) (by decide +kernel)) (by decide +kernel), TB_of (mt_4 (i := 189) (by decide +kernel)) (by decide +kernel), TB_of (mt_4 (i := 190) (by decide +kernel)) (by decide +kernel), TB_of (mt_1 (i := 3) (by decide +kernel)) (by decide +kernel), rfl, by decide, by decide, by decide +kernel⟩
theorem cv_RX3_24 : CV RX3 RX2 24 yX2_clear cX2_clear 1 0 none := ⟨TB_of (mt_4 (i := 142) (by decide +kernel)) (by decide +kernel), TB_of (mt_4 (i := 139) (by decide +kernel)) (by decide +kernel), TB_of (mt_4 (i := 140) (by decide +kernel)) (by decide +kernel), TB_of (mt_4 (i := 141) (by decide +kernel)) (by decide +kernel), TB_of (mt_1 (i := 3) (by decide +kernel)) (by decide +kernel), rfl, by decide, by decide, by decide +kernel⟩
theorem cv_RX4_57 : CV RX4 RX4 57 yX4_ofThing cX4_ofThing 3 2 (some .int) := ⟨TB_of (mt_2 (i := 135) (by decide +kernel)) (by decide +kernel), TB_of (mt_2 (i := 161) (by decide +kernel)) (by decide +kernel), TB_of (mt_2 (i := 133) (by decide +kernel)) (by decide +kernel), TB_of (mt_2 (i := 134) (by decide +kernel)) (by decide +kernel), TB_of (mt_1 (i := 2) (by decide +kernel)) (by decide +kernel), rfl, by decide, by decide, by decide +kernel⟩
theorem cv_RX4_61 : CV RX4 RX4 61 yX4_setThing cX4_setThing 4 3 none := ⟨TB_of (mt_3 (i := 24) (by decide +kernel)) (by decide +kernel), TB_of (mt_3 (i := 21) (by decide +kernel)) (by decide +kernel), TB_of (mt_3 (i := 22) (by decide +kernel)) (by decide +kernel), TB_of (mt_3 (i := 23) (by decide +kernel)) (by decide +kernel), TB_of (mt_1 (i := 2) (by decide +kernel)) (by decide +kernel), rfl, by decide, by decide, by decide +kernel⟩
theorem cv_RX4_65 : CV RX4 RX4 65 yX4_ofVisitor cX4_ofVisitor 3 2 (some .int) := ⟨TB_of (mt_2 (i := 127) (by decide +kernel)) (by decide +kernel), TB_of (mt_2 (i := 175) (by decide +kernel)) (by decide +kernel), TB_of (mt_2 (i := 125) (by decide +kernel)) (by decide +kernel), TB_of (mt_2 (i := 126) (by decide +kernel)) (by decide +kernel), TB_of (mt_1 (i := 2) (by decide +kernel)) (by decide +kernel), rfl, by decide, by decide, by decide +kernel⟩
theorem cv_RX4_68 : CV RX4 RX4 68 yX4_setVisitor cX4_setVisitor 4 3 none := ⟨TB_of (mt_4 (i := 17) (by decide +kernel)) (by decide +kernel), TB_of (mt_5 (i := 124) (by decide +kernel)) (by decide +kernel), TB_of (mt_4 (i := 15) (by decide +kernel)) (by decide +kernel), TB_of (mt_4 (i := 16) (by decide +kernel)) (by decide +kernel), TB_of (mt_1 (i := 2) (by decide +kernel)) (by decide +kernel), rfl, by decide, by decide, by decide +kernel⟩
theorem cv_RX4_72 : CV RX4 RX4 72 yX4_stepOf cX4_stepOf 2 1 (some .int) := ⟨TB_of (mt_2 (i := 187) (by decide +kernel)) (by decide +kernel), TB_of (mt_5 (i := 147) (by decide +kernel)) (by decide +kernel), TB_of (mt_2 (i := 185) (by decide +kernel)) (by decide +kernel), TB_of (mt_2 (i := 186) (by decide +kernel)) (by decide +kernel), TB_of (mt_1 (i := 2) (by decide +kernel)) (by decide +kernel), rfl, by decide, by decide, by decide +kernel⟩
theorem cv_RX4_81 : CV RX4 RX4 81 yX4_logRows cX4_logRows 1 0 (some .int) := ⟨TB_of (mt_3 (i := 79) (by decide +kernel)) (by decide +kernel), TB_of (mt_6 (i := 101) (by decide +kernel)) (by decide +kernel), TB_of (mt_3 (i := 77) (by decide +kernel)) (by decide +kernel), TB_of (mt_3 (i := 78) (by decide +kernel)) (by decide +kernel), TB_of (mt_1 (i := 2) (by decide +kernel)) (by decide +kernel), rfl, by decide, by decide, by decide +kernel⟩
theorem cv_RX4_85 : CV RX4 RX4 85 yX4_logged cX4_logged 3 2 (some .int) := ⟨TB_of (mt_6 (i := 105) (by decide +kernel)) (by decide +kernel), TB_of (mt_6 (i := 102) (by decide +kernel)) (by decide +kernel), TB_of (mt_6 (i := 103) (by decide +kernel)) (by decide +kernel), TB_of (mt_6 (i := 104) (by decide +kernel)) (by decide +kernel), TB_of (mt_1 (i := 2) (by decide +kernel)) (by decide +kernel), rfl, by decide, by decide, by decide +kernel⟩
theorem cv_RX5_43 : CV RX5 RX4 43 yX4_ofThing cX4_ofThing 3 2 (some .int) := ⟨TB_of (mt_2 (i := 135) (by decide +kernel)) (by decide +kernel), TB_of (mt_2 (i := 219) (by decide +kernel)) (by decide +kernel), TB_of (mt_2 (i := 133) (by decide +kernel)) (by decide +kernel), TB_of (mt_2 (i := 134) (by decide +kernel)) (by decide +kernel), TB_of (mt_1 (i := 2) (by decide +kernel)) (by decide +kernel), rfl, by decide, by decide, by decide +kernel⟩
theorem cv_RX5_53 : CV RX5 RX5 53 yX5_tooMany cX5_tooMany 4 1 (some .boolean) := ⟨TB_of (mt_2 (i := 231) (by decide +kernel)) (by decide +kernel), TB_of (mt_2 (i := 228) (by decide +kernel)) (by decide +kernel), TB_of (mt_2 (i := 230) (by decide +kernel)) (by decide +kernel), TB_of (ms_of (i := 6) (by decide +kernel)) (by decide +kernel), TB_of (mt_1 (i := 5) (by decide +kernel)) (by decide +kernel), rfl, by decide, by decide, by decide +kernel⟩
theorem cv_RX5_57 : CV RX5 RX5 57 yX5_anyTooMany cX5_anyTooMany 4 2 (some .boolean) := ⟨TB_of (mt_2 (i := 227) (by decide +kernel)) (by decide +kernel), TB_of (mt_2 (i := 224) (by decide +kernel)) (by decide +kernel), TB_of (mt_2 (i := 226) (by decide +kernel)) (by decide +kernel), TB_of (ms_of (i := 5) (by decide +kernel)) (by decide +kernel), TB_of (mt_1 (i := 5) (by decide +kernel)) (by decide +kernel), rfl, by decide, by decide, by decide +kernel⟩
theorem cv_RX5_61 : CV RX5 RX5 61 yX5_ringAllFor cX5_ringAllFor 4 1 (some .boolean) := ⟨TB_of (mt_3 (i := 37) (by decide +kernel)) (by decide +kernel), TB_of (mt_3 (i := 34) (by decide +kernel)) (by decide +kernel), TB_of (mt_3 (i := 36) (by decide +kernel)) (by decide +kernel), TB_of (ms_of (i := 7) (by decide +kernel)) (by decide +kernel), TB_of (mt_1 (i := 5) (by decide +kernel)) (by decide +kernel), rfl, by decide, by decide, by decide +kernel⟩
theorem cv_RX6_100 : CV RX6 RX6 100 yX6_hadBy cX6_hadBy 4 1 (some .int) := ⟨TB_of (mt_2 (i := 204) (by decide +kernel)) (by decide +kernel), TB_of (mt_5 (i := 149) (by decide +kernel)) (by decide +kernel), TB_of (mt_2 (i := 202) (by decide +kernel)) (by decide +kernel), TB_of (mt_2 (i := 203) (by decide +kernel)) (by decide +kernel), TB_of (mt_1 (i := 4) (by decide +kernel)) (by decide +kernel), rfl, by decide, by decide, by decide +kernel⟩
theorem cv_RX6_103 : CV RX6 RX4 103 yX4_setThing cX4_setThing 4 3 none := ⟨TB_of (mt_3 (i := 24) (by decide +kernel)) (by decide +kernel), TB_of (mt_5 (i := 150) (by decide +kernel)) (by decide +kernel), TB_of (mt_3 (i := 22) (by decide +kernel)) (by decide +kernel), TB_of (mt_3 (i := 23) (by decide +kernel)) (by decide +kernel), TB_of (mt_1 (i := 2) (by decide +kernel)) (by decide +kernel), rfl, by decide, by decide, by decide +kernel⟩
theorem cv_RX6_33 : CV RX6 RX2 33 yX2_weighs cX2_weighs 10 3 (some .int) := ⟨TB_of (mt_2 (i := 123) (by decide +kernel)) (by decide +kernel), TB_of (mt_2 (i := 120) (by decide +kernel)) (by decide +kernel), TB_of (mt_2 (i := 121) (by decide +kernel)) (by decide +kernel), TB_of (mt_2 (i := 122) (by decide +kernel)) (by decide +kernel), TB_of (mt_1 (i := 3) (by decide +kernel)) (by decide +kernel), rfl, by decide, by decide, by decide +kernel⟩
theorem cv_RX6_43 : CV RX6 RX6 43 yX6_listen cX6_listen 5 1 none := ⟨TB_of (mt_2 (i := 151) (by decide +kernel)) (by decide +kernel), TB_of (mt_2 (i := 148) (by decide +kernel)) (by decide +kernel), TB_of (mt_2 (i := 149) (by decide +kernel)) (by decide +kernel), TB_of (mt_2 (i := 150) (by decide +kernel)) (by decide +kernel), TB_of (mt_1 (i := 4) (by decide +kernel)) (by decide +kernel), rfl, by decide, by decide, by decide +kernel⟩
theorem cv_RX6_47 : CV RX6 RX6 47 yX6_likes cX6_likes 3 2 (some .int) := ⟨TB_of (mt_2 (i := 155) (by decide +kernel)) (by decide +kernel), TB_of (mt_2 (i := 152) (by decide +kernel)) (by decide +kernel), TB_of (mt_2 (i := 153) (by decide +kernel)) (by decide +kernel), TB_of (mt_2 (i := 154) (by decide +kernel)) (by decide +kernel), TB_of (mt_1 (i := 4) (by decide +kernel)) (by decide +kernel), rfl, by decide, by decide, by decide +kernel⟩
theorem cv_RX6_51 : CV RX6 RX4 51 yX4_rings cX4_rings 3 2 (some .boolean) := ⟨TB_of (mt_2 (i := 160) (by decide +kernel)) (by decide +kernel), TB_of (mt_2 (i := 157) (by decide +kernel)) (by decide +kernel), TB_of (mt_2 (i := 158) (by decide +kernel)) (by decide +kernel), TB_of (mt_2 (i := 159) (by decide +kernel)) (by decide +kernel), TB_of (mt_1 (i := 2) (by decide +kernel)) (by decide +kernel), rfl, by decide, by decide, by decide +kernel⟩
theorem cv_RX6_65 : CV RX6 RX4 65 yX4_ofThing cX4_ofThing 3 2 (some .int) := ⟨TB_of (mt_2 (i := 135) (by decide +kernel)) (by decide +kernel), TB_of (mt_2 (i := 169) (by decide +kernel)) (by decide +kernel), TB_of (mt_2 (i := 133) (by decide +kernel)) (by decide +kernel), TB_of (mt_2 (i := 134) (by decide +kernel)) (by decide +kernel), TB_of (mt_1 (i := 2) (by decide +kernel)) (by decide +kernel), rfl, by decide, by decide, by decide +kernel⟩
theorem cv_RX6_68 : CV RX6 RX4 68 yX4_drawsAway cX4_drawsAway 2 1 (some .boolean) := ⟨TB_of (mt_2 (i := 173) (by decide +kernel)) (by decide +kernel), TB_of (mt_2 (i := 170) (by decide +kernel)) (by decide +kernel), TB_of (mt_2 (i := 171) (by decide +kernel)) (by decide +kernel), TB_of (mt_2 (i := 172) (by decide +kernel)) (by decide +kernel), TB_of (mt_1 (i := 2) (by decide +kernel)) (by decide +kernel), rfl, by decide, by decide, by decide +kernel⟩
theorem cv_RX6_72 : CV RX6 RX6 72 yX6_firstToRing cX6_firstToRing 8 2 (some .int) := ⟨TB_of (mt_2 (i := 179) (by decide +kernel)) (by decide +kernel), TB_of (mt_2 (i := 176) (by decide +kernel)) (by decide +kernel), TB_of (mt_2 (i := 178) (by decide +kernel)) (by decide +kernel), TB_of (ms_of (i := 3) (by decide +kernel)) (by decide +kernel), TB_of (mt_1 (i := 4) (by decide +kernel)) (by decide +kernel), rfl, by decide, by decide, by decide +kernel⟩
theorem cv_RX6_76 : CV RX6 RX6 76 yX6_calls cX6_calls 3 2 (some .boolean) := ⟨TB_of (mt_2 (i := 183) (by decide +kernel)) (by decide +kernel), TB_of (mt_2 (i := 180) (by decide +kernel)) (by decide +kernel), TB_of (mt_2 (i := 181) (by decide +kernel)) (by decide +kernel), TB_of (mt_2 (i := 182) (by decide +kernel)) (by decide +kernel), TB_of (mt_1 (i := 4) (by decide +kernel)) (by decide +kernel), rfl, by decide, by decide, by decide +kernel⟩
theorem cv_RX6_79 : CV RX6 RX4 79 yX4_stepOf cX4_stepOf 2 1 (some .int) := ⟨TB_of (mt_2 (i := 187) (by decide +kernel)) (by decide +kernel), TB_of (mt_2 (i := 184) (by decide +kernel)) (by decide +kernel), TB_of (mt_2 (i := 185) (by decide +kernel)) (by decide +kernel), TB_of (mt_2 (i := 186) (by decide +kernel)) (by decide +kernel), TB_of (mt_1 (i := 2) (by decide +kernel)) (by decide +kernel), rfl, by decide, by decide, by decide +kernel⟩
theorem cv_RX6_83 : CV RX6 RX6 83 yX6_weigh cX6_weigh 5 2 none := ⟨TB_of (mt_2 (i := 119) (by decide +kernel)) (by decide +kernel), TB_of (mt_5 (i := 141) (by decide +kernel)) (by decide +kernel), TB_of (mt_2 (i := 117) (by decide +kernel)) (by decide +kernel), TB_of (mt_2 (i := 118) (by decide +kernel)) (by decide +kernel), TB_of (mt_1 (i := 4) (by decide +kernel)) (by decide +kernel), rfl, by decide, by decide, by decide +kernel⟩
theorem cv_RX6_87 : CV RX6 RX6 87 yX6_lead cX6_lead 7 2 (some .int) := ⟨TB_of (mt_2 (i := 165) (by decide +kernel)) (by decide +kernel), TB_of (mt_5 (i := 142) (by decide +kernel)) (by decide +kernel), TB_of (mt_2 (i := 163) (by decide +kernel)) (by decide +kernel), TB_of (mt_2 (i := 164) (by decide +kernel)) (by decide +kernel), TB_of (mt_1 (i := 4) (by decide +kernel)) (by decide +kernel), rfl, by decide, by decide, by decide +kernel⟩
theorem cv_RX6_91 : CV RX6 RX4 91 yX4_note cX4_note 5 3 none := ⟨TB_of (mt_5 (i := 146) (by decide +kernel)) (by decide +kernel), TB_of (mt_5 (i := 143) (by decide +kernel)) (by decide +kernel), TB_of (mt_5 (i := 144) (by decide +kernel)) (by decide +kernel), TB_of (mt_5 (i := 145) (by decide +kernel)) (by decide +kernel), TB_of (mt_1 (i := 2) (by decide +kernel)) (by decide +kernel), rfl, by decide, by decide, by decide +kernel⟩
theorem cv_RX9_147 : CV RX9 RX4 147 yX4_ofThing cX4_ofThing 3 2 (some .int) := ⟨TB_of (mt_2 (i := 135) (by decide +kernel)) (by decide +kernel), TB_of (mt_2 (i := 200) (by decide +kernel)) (by decide +kernel), TB_of (mt_2 (i := 133) (by decide +kernel)) (by decide +kernel), TB_of (mt_2 (i := 134) (by decide +kernel)) (by decide +kernel), TB_of (mt_1 (i := 2) (by decide +kernel)) (by decide +kernel), rfl, by decide, by decide, by decide +kernel⟩
theorem cv_RX9_151 : CV RX9 RX9 151 yX9_tomorrow cX9_tomorrow 2 1 (some .int) := ⟨TB_of (mt_2 (i := 115) (by decide +kernel)) (by decide +kernel), TB_of (mt_2 (i := 112) (by decide +kernel)) (by decide +kernel), TB_of (mt_2 (i := 114) (by decide +kernel)) (by decide +kernel), TB_of (ms_of (i := 1) (by decide +kernel)) (by decide +kernel), TB_of (mt_1 (i := 1) (by decide +kernel)) (by decide +kernel), rfl, by decide, by decide, by decide +kernel⟩
theorem cv_RX9_162 : CV RX9 RX6 162 yX6_hadBy cX6_hadBy 4 1 (some .int) := ⟨TB_of (mt_2 (i := 204) (by decide +kernel)) (by decide +kernel), TB_of (mt_2 (i := 201) (by decide +kernel)) (by decide +kernel), TB_of (mt_2 (i := 202) (by decide +kernel)) (by decide +kernel), TB_of (mt_2 (i := 203) (by decide +kernel)) (by decide +kernel), TB_of (mt_1 (i := 4) (by decide +kernel)) (by decide +kernel), rfl, by decide, by decide, by decide +kernel⟩
theorem cv_RX9_174 : CV RX9 RX4 174 yX4_ofVisitor cX4_ofVisitor 3 2 (some .int) := ⟨TB_of (mt_2 (i := 127) (by decide +kernel)) (by decide +kernel), TB_of (mt_5 (i := 45) (by decide +kernel)) (by decide +kernel), TB_of (mt_2 (i := 125) (by decide +kernel)) (by decide +kernel), TB_of (mt_2 (i := 126) (by decide +kernel)) (by decide +kernel), TB_of (mt_1 (i := 2) (by decide +kernel)) (by decide +kernel), rfl, by decide, by decide, by decide +kernel⟩
theorem cv_RX9_187 : CV RX9 RX2 187 yX2_weighs cX2_weighs 10 3 (some .int) := ⟨TB_of (mt_2 (i := 123) (by decide +kernel)) (by decide +kernel), TB_of (mt_5 (i := 50) (by decide +kernel)) (by decide +kernel), TB_of (mt_2 (i := 121) (by decide +kernel)) (by decide +kernel), TB_of (mt_2 (i := 122) (by decide +kernel)) (by decide +kernel), TB_of (mt_1 (i := 3) (by decide +kernel)) (by decide +kernel), rfl, by decide, by decide, by decide +kernel⟩
theorem cv_RX9_194 : CV RX9 RX4 194 yX4_rings cX4_rings 3 2 (some .boolean) := ⟨TB_of (mt_2 (i := 160) (by decide +kernel)) (by decide +kernel), TB_of (mt_5 (i := 51) (by decide +kernel)) (by decide +kernel), TB_of (mt_2 (i := 158) (by decide +kernel)) (by decide +kernel), TB_of (mt_2 (i := 159) (by decide +kernel)) (by decide +kernel), TB_of (mt_1 (i := 2) (by decide +kernel)) (by decide +kernel), rfl, by decide, by decide, by decide +kernel⟩
theorem cv_RX9_198 : CV RX9 RX6 198 yX6_weigh cX6_weigh 5 2 none := ⟨TB_of (mt_2 (i := 119) (by decide +kernel)) (by decide +kernel), TB_of (mt_2 (i := 116) (by decide +kernel)) (by decide +kernel), TB_of (mt_2 (i := 117) (by decide +kernel)) (by decide +kernel), TB_of (mt_2 (i := 118) (by decide +kernel)) (by decide +kernel), TB_of (mt_1 (i := 4) (by decide +kernel)) (by decide +kernel), rfl, by decide, by decide, by decide +kernel⟩
theorem cv_RX9_202 : CV RX9 RX6 202 yX6_lead cX6_lead 7 2 (some .int) := ⟨TB_of (mt_2 (i := 165) (by decide +kernel)) (by decide +kernel), TB_of (mt_2 (i := 162) (by decide +kernel)) (by decide +kernel), TB_of (mt_2 (i := 163) (by decide +kernel)) (by decide +kernel), TB_of (mt_2 (i := 164) (by decide +kernel)) (by decide +kernel), TB_of (mt_1 (i := 4) (by decide +kernel)) (by decide +kernel), rfl, by decide, by decide, by decide +kernel⟩
theorem cv_RX9_212 : CV RX9 RX4 212 yX4_thingAt cX4_thingAt 3 1 (some .int) := ⟨TB_of (mt_2 (i := 199) (by decide +kernel)) (by decide +kernel), TB_of (mt_2 (i := 196) (by decide +kernel)) (by decide +kernel), TB_of (mt_2 (i := 197) (by decide +kernel)) (by decide +kernel), TB_of (mt_2 (i := 198) (by decide +kernel)) (by decide +kernel), TB_of (mt_1 (i := 2) (by decide +kernel)) (by decide +kernel), rfl, by decide, by decide, by decide +kernel⟩
theorem cv_RX9_242 : CV RX9 RX6 242 yX6_passDay cX6_passDay 7 3 (some .int) := ⟨TB_of (mt_5 (i := 140) (by decide +kernel)) (by decide +kernel), TB_of (mt_5 (i := 137) (by decide +kernel)) (by decide +kernel), TB_of (mt_5 (i := 138) (by decide +kernel)) (by decide +kernel), TB_of (mt_5 (i := 139) (by decide +kernel)) (by decide +kernel), TB_of (mt_1 (i := 4) (by decide +kernel)) (by decide +kernel), rfl, by decide, by decide, by decide +kernel⟩
theorem cv_RX9_246 : CV RX9 RX9 246 yX9_forgetOldest cX9_forgetOldest 3 0 none := ⟨TB_of (mt_5 (i := 78) (by decide +kernel)) (by decide +kernel), TB_of (mt_5 (i := 75) (by decide +kernel)) (by decide +kernel), TB_of (mt_5 (i := 77) (by decide +kernel)) (by decide +kernel), TB_of (ms_of (i := 32) (by decide +kernel)) (by decide +kernel), TB_of (mt_1 (i := 1) (by decide +kernel)) (by decide +kernel), rfl, by decide, by decide, by decide +kernel⟩
theorem cv_RX9_249 : CV RX9 RX6 249 yX6_hadAtAll cX6_hadAtAll 3 0 (some .int) := ⟨TB_of (mt_2 (i := 191) (by decide +kernel)) (by decide +kernel), TB_of (mt_2 (i := 188) (by decide +kernel)) (by decide +kernel), TB_of (mt_2 (i := 189) (by decide +kernel)) (by decide +kernel), TB_of (mt_2 (i := 190) (by decide +kernel)) (by decide +kernel), TB_of (mt_1 (i := 4) (by decide +kernel)) (by decide +kernel), rfl, by decide, by decide, by decide +kernel⟩
theorem cv_RX9_252 : CV RX9 RX9 252 yX9_pairUp cX9_pairUp 1 0 none := ⟨TB_of (mt_2 (i := 212) (by decide +kernel)) (by decide +kernel), TB_of (mt_2 (i := 209) (by decide +kernel)) (by decide +kernel), TB_of (mt_2 (i := 211) (by decide +kernel)) (by decide +kernel), TB_of (ms_of (i := 4) (by decide +kernel)) (by decide +kernel), TB_of (mt_1 (i := 1) (by decide +kernel)) (by decide +kernel), rfl, by decide, by decide, by decide +kernel⟩
theorem cv_RX9_255 : CV RX9 RX5 255 yX5_mostAtOnce cX5_mostAtOnce 4 0 (some .int) := ⟨TB_of (mt_2 (i := 223) (by decide +kernel)) (by decide +kernel), TB_of (mt_2 (i := 220) (by decide +kernel)) (by decide +kernel), TB_of (mt_2 (i := 221) (by decide +kernel)) (by decide +kernel), TB_of (mt_2 (i := 222) (by decide +kernel)) (by decide +kernel), TB_of (mt_1 (i := 5) (by decide +kernel)) (by decide +kernel), rfl, by decide, by decide, by decide +kernel⟩
theorem cv_RX9_269 : CV RX9 RX5 269 yX5_fewestTooMany cX5_fewestTooMany 4 0 (some .int) := ⟨TB_of (mt_3 (i := 5) (by decide +kernel)) (by decide +kernel), TB_of (mt_3 (i := 2) (by decide +kernel)) (by decide +kernel), TB_of (mt_3 (i := 3) (by decide +kernel)) (by decide +kernel), TB_of (mt_3 (i := 4) (by decide +kernel)) (by decide +kernel), TB_of (mt_1 (i := 5) (by decide +kernel)) (by decide +kernel), rfl, by decide, by decide, by decide +kernel⟩
theorem cv_RX9_272 : CV RX9 RX5 272 yX5_take cX5_take 4 2 none := ⟨TB_of (mt_2 (i := 216) (by decide +kernel)) (by decide +kernel), TB_of (mt_2 (i := 213) (by decide +kernel)) (by decide +kernel), TB_of (mt_2 (i := 214) (by decide +kernel)) (by decide +kernel), TB_of (mt_2 (i := 215) (by decide +kernel)) (by decide +kernel), TB_of (mt_1 (i := 5) (by decide +kernel)) (by decide +kernel), rfl, by decide, by decide, by decide +kernel⟩
theorem cv_RX9_275 : CV RX9 RX4 275 yX4_swapCells cX4_swapCells 4 2 none := ⟨TB_of (mt_3 (i := 20) (by decide +kernel)) (by decide +kernel), TB_of (mt_3 (i := 17) (by decide +kernel)) (by decide +kernel), TB_of (mt_3 (i := 18) (by decide +kernel)) (by decide +kernel), TB_of (mt_3 (i := 19) (by decide +kernel)) (by decide +kernel), TB_of (mt_1 (i := 2) (by decide +kernel)) (by decide +kernel), rfl, by decide, by decide, by decide +kernel⟩
theorem cv_RX9_284 : CV RX9 RX5 284 yX5_fewestForAll cX5_fewestForAll 3 0 (some .int) := ⟨TB_of (mt_3 (i := 33) (by decide +kernel)) (by decide +kernel), TB_of (mt_3 (i := 30) (by decide +kernel)) (by decide +kernel), TB_of (mt_3 (i := 31) (by decide +kernel)) (by decide +kernel), TB_of (mt_3 (i := 32) (by decide +kernel)) (by decide +kernel), TB_of (mt_1 (i := 5) (by decide +kernel)) (by decide +kernel), rfl, by decide, by decide, by decide +kernel⟩
theorem cv_RX9_292 : CV RX9 RX9 292 yX9_takeTold cX9_takeTold 3 0 (some .int) := ⟨TB_of (mt_6 (i := 6) (by decide +kernel)) (by decide +kernel), TB_of (mt_6 (i := 3) (by decide +kernel)) (by decide +kernel), TB_of (mt_6 (i := 5) (by decide +kernel)) (by decide +kernel), TB_of (ms_of (i := 40) (by decide +kernel)) (by decide +kernel), TB_of (mt_1 (i := 1) (by decide +kernel)) (by decide +kernel), rfl, by decide, by decide, by decide +kernel⟩
theorem cv_RX9_297 : CV RX9 RX9 297 yX9_fittingSets cX9_fittingSets 7 1 (some .long) := ⟨TB_of (mt_6 (i := 11) (by decide +kernel)) (by decide +kernel), TB_of (mt_6 (i := 8) (by decide +kernel)) (by decide +kernel), TB_of (mt_6 (i := 10) (by decide +kernel)) (by decide +kernel), TB_of (ms_of (i := 41) (by decide +kernel)) (by decide +kernel), TB_of (mt_1 (i := 1) (by decide +kernel)) (by decide +kernel), rfl, by decide, by decide, by decide +kernel⟩
theorem cv_RX9_342 : CV RX9 RX4 342 yX4_logRows cX4_logRows 1 0 (some .int) := ⟨TB_of (mt_3 (i := 79) (by decide +kernel)) (by decide +kernel), TB_of (mt_3 (i := 76) (by decide +kernel)) (by decide +kernel), TB_of (mt_3 (i := 77) (by decide +kernel)) (by decide +kernel), TB_of (mt_3 (i := 78) (by decide +kernel)) (by decide +kernel), TB_of (mt_1 (i := 2) (by decide +kernel)) (by decide +kernel), rfl, by decide, by decide, by decide +kernel⟩
theorem cv_RX9_348 : CV RX9 RX2 348 yX2_copyFrom cX2_copyFrom 2 1 none := ⟨TB_of (mt_3 (i := 58) (by decide +kernel)) (by decide +kernel), TB_of (mt_3 (i := 55) (by decide +kernel)) (by decide +kernel), TB_of (mt_3 (i := 56) (by decide +kernel)) (by decide +kernel), TB_of (mt_3 (i := 57) (by decide +kernel)) (by decide +kernel), TB_of (mt_1 (i := 3) (by decide +kernel)) (by decide +kernel), rfl, by decide, by decide, by decide +kernel⟩
theorem cv_RX9_361 : CV RX9 RX4 361 yX4_shownThings cX4_shownThings 3 0 (some .int) := ⟨TB_of (mt_3 (i := 71) (by decide +kernel)) (by decide +kernel), TB_of (mt_3 (i := 68) (by decide +kernel)) (by decide +kernel), TB_of (mt_3 (i := 69) (by decide +kernel)) (by decide +kernel), TB_of (mt_3 (i := 70) (by decide +kernel)) (by decide +kernel), TB_of (mt_1 (i := 2) (by decide +kernel)) (by decide +kernel), rfl, by decide, by decide, by decide +kernel⟩
theorem cv_RX9_364 : CV RX9 RX4 364 yX4_sumOfThings cX4_sumOfThings 4 1 (some .int) := ⟨TB_of (mt_3 (i := 75) (by decide +kernel)) (by decide +kernel), TB_of (mt_3 (i := 72) (by decide +kernel)) (by decide +kernel), TB_of (mt_3 (i := 73) (by decide +kernel)) (by decide +kernel), TB_of (mt_3 (i := 74) (by decide +kernel)) (by decide +kernel), TB_of (mt_1 (i := 2) (by decide +kernel)) (by decide +kernel), rfl, by decide, by decide, by decide +kernel⟩
theorem cv_RX9_85 : CV RX9 RX9 85 yX9_append cX9_append 3 1 none := ⟨TB_of (mt_2 (i := 96) (by decide +kernel)) (by decide +kernel), TB_of (mt_2 (i := 93) (by decide +kernel)) (by decide +kernel), TB_of (mt_2 (i := 95) (by decide +kernel)) (by decide +kernel), TB_of (ms_of (i := 0) (by decide +kernel)) (by decide +kernel), TB_of (mt_1 (i := 1) (by decide +kernel)) (by decide +kernel), rfl, by decide, by decide, by decide +kernel⟩
theorem cv_RX9_93 : CV RX9 RX4 93 yX4_copyFrom cX4_copyFrom 2 1 none := ⟨TB_of (mt_3 (i := 13) (by decide +kernel)) (by decide +kernel), TB_of (mt_3 (i := 10) (by decide +kernel)) (by decide +kernel), TB_of (mt_3 (i := 11) (by decide +kernel)) (by decide +kernel), TB_of (mt_3 (i := 12) (by decide +kernel)) (by decide +kernel), TB_of (mt_1 (i := 2) (by decide +kernel)) (by decide +kernel), rfl, by decide, by decide, by decide +kernel⟩
theorem cv_RX9_97 : CV RX9 RX9 97 yX9_useTapeUp cX9_useTapeUp 2 0 (some .int) := ⟨TB_of (mt_3 (i := 95) (by decide +kernel)) (by decide +kernel), TB_of (mt_3 (i := 92) (by decide +kernel)) (by decide +kernel), TB_of (mt_3 (i := 94) (by decide +kernel)) (by decide +kernel), TB_of (ms_of (i := 8) (by decide +kernel)) (by decide +kernel), TB_of (mt_1 (i := 1) (by decide +kernel)) (by decide +kernel), rfl, by decide, by decide, by decide +kernel⟩
