/-! the wrappers of the law (printed by tools/gen_wr.py) -/
theorem ok2_1 : OK 2 1 8 := ok_of (by decide +kernel)
theorem ok3_1 : OK 3 1 8 := ok_of (by decide +kernel)
theorem ok3_109 : OK 3 109 9 := ok_of (by decide +kernel)
theorem ok3_108 : OK 3 108 31 := ok_of (by decide +kernel)
theorem cl_RL_108 : Cond.classLink RL 108 "BeltHallModel" ∈ TB := TB_of (mt_6 (i := 115) (by decide +kernel)) (by decide +kernel)
theorem cl_RL_13 : Cond.classLink RL 13 "java/lang/IllegalArgumentException" ∈ TB := TB_of (mt_3 (i := 86) (by decide +kernel)) (by decide +kernel)
theorem cl_RL_15 : Cond.classLink RL 15 "java/lang/UnsupportedOperationException" ∈ TB := TB_of (mt_3 (i := 87) (by decide +kernel)) (by decide +kernel)
theorem cl_RL_24 : Cond.classLink RL 24 "java/lang/IndexOutOfBoundsException" ∈ TB := TB_of (mt_4 (i := 225) (by decide +kernel)) (by decide +kernel)
theorem cl_RL_26 : Cond.classLink RL 26 "java/util/NoSuchElementException" ∈ TB := TB_of (mt_4 (i := 226) (by decide +kernel)) (by decide +kernel)
theorem cl_RL_8 : Cond.classLink RL 8 "BeltHall" ∈ TB := TB_of (mt_1 (i := 29) (by decide +kernel)) (by decide +kernel)
theorem nw_c1 : Cond.castable "java/lang/IllegalArgumentException" "java/lang/IllegalArgumentException" ∈ NW := List.mem_filter.mpr ⟨mt_4 (i := 45) (by decide +kernel), by decide +kernel⟩
theorem nw_c2 : Cond.castable "java/lang/IndexOutOfBoundsException" "java/lang/IndexOutOfBoundsException" ∈ NW := List.mem_filter.mpr ⟨mt_4 (i := 237) (by decide +kernel), by decide +kernel⟩
theorem nw_c3 : Cond.castable "java/lang/UnsupportedOperationException" "java/lang/UnsupportedOperationException" ∈ NW := List.mem_filter.mpr ⟨mt_4 (i := 114) (by decide +kernel), by decide +kernel⟩
theorem nw_c4 : Cond.castable "java/util/NoSuchElementException" "java/util/NoSuchElementException" ∈ NW := List.mem_filter.mpr ⟨mt_5 (i := 13) (by decide +kernel), by decide +kernel⟩
theorem wrO_cons {k : Nat} {j : Int32} {t : List (Nat × Int32)} {q : Nat × Mm} {g g2 : Nat → Int64} {r : Int32} {N : Mm} (h : wrO ((k, j) :: t) q g = some (r, N, g2)) : (q.1 = k ∧ r = j ∧ N = q.2 ∧ g2 = g) ∨ wrO t q g = some (r, N, g2) := by
  by_cases hk : q.1 = k
  · left
    simp [wrO, List.lookup, hk] at h
    exact ⟨hk, h.1.symm, h.2.1.symm, h.2.2.symm⟩
  · right
    have hb : (q.1 == k) = false := by simpa using hk
    simpa [wrO, List.lookup, hb] using h
theorem wrO_nil {q : Nat × Mm} {g : Nat → Int64} {x : Int32 × Mm × (Nat → Int64)} (h : wrO [] q g = some x) : False := by simp [wrO, List.lookup] at h
theorem cv_RL_79 : CV RL RX9 79 yX9_about cX9_about 9 3 (some .int) := ⟨TB_of (mt_6 (i := 40) (by decide +kernel)) (by decide +kernel), TB_of (mt_6 (i := 37) (by decide +kernel)) (by decide +kernel), TB_of (mt_6 (i := 38) (by decide +kernel)) (by decide +kernel), TB_of (mt_6 (i := 39) (by decide +kernel)) (by decide +kernel), TB_of (mt_1 (i := 1) (by decide +kernel)) (by decide +kernel), rfl, by decide, by decide, by decide +kernel⟩
def rm_L_about : Room := rmx 8 249 3 18
set_option maxRecDepth 100000 in
set_option maxHeartbeats 4000000 in
theorem K_L_about {X : Cx} {l : Launch} (hl0 : l.stackTraces = false) {Mc Mr N : Mm} {g g2 : Nat → Int64} {a1 : Int32} {a2 : Int32} {a3 : Int32} {rx : (Int32 × Mm) ⊕ (Nat × Mm)} {r : Int32} (he : f_X9_about Mc a1 a2 a3 = some rx) (hw : wrI [(2, 1), (4, 2)] rx g = some (r, N, g2)) : KW X l yL_about (wzh yL_about cL_about 6 (some .int) [(0, 12, 15, 24), (0, 12, 19, 26)]) rm_L_about [.ref (X.2.2 1), .int a1, .int a2, .int a3, .ref (X.2.2 108)] (mk3 Mc Mr g) r (mk3 N Mr g2) := by
  refine KW_of (own := RL) (lv0 := [(0, .ref (X.2.2 1)), (1, .int a1), (2, .int a2), (3, .int a3), (4, .ref (X.2.2 108))]) (by decide +kernel) rfl (Nat.le_of_ble_eq_true rfl) rfl (fun p e s m args below meth c S T hNC => ?_)
  refine z_aload S dL_about_0 4 rfl ?_
  refine z_iconst (v := 0) S dL_about_2 (by decide) ?_
  refine z_aload_n S dL_about_3 rfl 0 rfl ?_
  refine z_iload_n S dL_about_4 rfl 1 rfl ?_
  refine z_iload_n S dL_about_5 rfl 2 rfl ?_
  refine z_iload_n S dL_about_6 rfl 3 rfl ?_
  refine z_hVI (v := 0) (As := [.int a1, .int a2, .int a3]) (rest := [.int 0, .ref (X.2.2 108)]) S ⟨by decide, by decide⟩ agr3c cv_RL_79 (K_X9_about hl0 he) ok2_1 (by decide) (q := (RX9, TX9, 17)) rfl rfl ⟨rfl, rfl⟩ ⟨Nat.le_of_ble_eq_true rfl, Nat.le_of_ble_eq_true rfl⟩ ⟨Nat.le_of_ble_eq_true rfl, Nat.le_of_ble_eq_true rfl⟩ rfl rfl (Nat.le_of_ble_eq_true rfl) dL_about_7 (fun u hu => ?_) (fun E hE => ?_)
  · subst hu
    replace hw : wrO [(2, 1), (4, 2)] u g = some (r, N, g2) := hw
    rcases wrO_cons hw with ⟨hk, rfl, rfl, rfl⟩ | hw
    · refine ⟨15, ⟨[], ⟨0, 12, 15, 24⟩, [⟨0, 12, 19, 26⟩], "java/lang/IndexOutOfBoundsException", T, (fun z hz => nomatch hz), by decide, by decide, S.1.2.2.2.2 _ cl_RL_24, by rw [hk]; exact NW_use nw_c2 (S.2.2.2.2.2.1 _ nw_c2), rfl⟩, fun q9 => ?_⟩
      rw [mix3c]
      refine z_astore (lv' := []) S [] dL_about_15 (by decide) rfl ?_
      refine z_iconst (v := 1) S dL_about_17 (by decide) ?_
      exact z_wret S rfl (by decide) (by decide) dL_about_18
    rcases wrO_cons hw with ⟨hk, rfl, rfl, rfl⟩ | hw
    · refine ⟨19, ⟨[⟨0, 12, 15, 24⟩], ⟨0, 12, 19, 26⟩, [], "java/util/NoSuchElementException", T, (fun z hz => Or.inr (by
        rcases List.mem_cons.mp hz with rfl | hz
        · exact ⟨by decide, "java/lang/IndexOutOfBoundsException", S.1.2.2.2.2 _ cl_RL_24, by rw [hk]; exact hNC ("java/util/NoSuchElementException", "java/lang/IndexOutOfBoundsException") (by decide)⟩
        exact nomatch hz)), by decide, by decide, S.1.2.2.2.2 _ cl_RL_26, by rw [hk]; exact NW_use nw_c4 (S.2.2.2.2.2.1 _ nw_c4), rfl⟩, fun q9 => ?_⟩
      rw [mix3c]
      refine z_astore (lv' := []) S [] dL_about_19 (by decide) rfl ?_
      refine z_iconst (v := 2) S dL_about_21 (by decide) ?_
      exact z_wret S rfl (by decide) (by decide) dL_about_22
    · exact (wrO_nil hw).elim
  · subst hE
    rw [mix3c]
    cases hw
    refine z_i2l S dL_about_10 ?_
    refine z_last (i := 108) (N := 1) (A := some ()) (x0 := ()) S ok_108 (by decide +kernel) (by decide) dL_about_11 (fun _ => ?_)
    refine z_memeq (sL3 (g := g)) ?_
    refine z_goto (tgt := 23) S dL_about_12 (by decide) ?_
    refine z_iconst (v := 0) S dL_about_23 (by decide) ?_
    exact z_wret S rfl (by decide) (by decide) dL_about_24
theorem cv_RL_83 : CV RL RX9 83 yX9_ahead cX9_ahead 5 3 (some .int) := ⟨TB_of (mt_6 (i := 48) (by decide +kernel)) (by decide +kernel), TB_of (mt_6 (i := 45) (by decide +kernel)) (by decide +kernel), TB_of (mt_6 (i := 46) (by decide +kernel)) (by decide +kernel), TB_of (mt_6 (i := 47) (by decide +kernel)) (by decide +kernel), TB_of (mt_1 (i := 1) (by decide +kernel)) (by decide +kernel), rfl, by decide, by decide, by decide +kernel⟩
def rm_L_ahead : Room := rmx 8 245 3 18
set_option maxRecDepth 100000 in
set_option maxHeartbeats 4000000 in
theorem K_L_ahead {X : Cx} {l : Launch} (hl0 : l.stackTraces = false) {Mc Mr N : Mm} {g g2 : Nat → Int64} {a1 : Int32} {a2 : Int32} {a3 : Int32} {rx : (Int32 × Mm) ⊕ (Nat × Mm)} {r : Int32} (he : f_X9_ahead Mc a1 a2 a3 = some rx) (hw : wrI [(2, 1), (1, 2), (4, 3)] rx g = some (r, N, g2)) : KW X l yL_ahead (wzh yL_ahead cL_ahead 6 (some .int) [(0, 12, 15, 24), (0, 12, 19, 13), (0, 12, 23, 26)]) rm_L_ahead [.ref (X.2.2 1), .int a1, .int a2, .int a3, .ref (X.2.2 108)] (mk3 Mc Mr g) r (mk3 N Mr g2) := by
  refine KW_of (own := RL) (lv0 := [(0, .ref (X.2.2 1)), (1, .int a1), (2, .int a2), (3, .int a3), (4, .ref (X.2.2 108))]) (by decide +kernel) rfl (Nat.le_of_ble_eq_true rfl) rfl (fun p e s m args below meth c S T hNC => ?_)
  refine z_aload S dL_ahead_0 4 rfl ?_
  refine z_iconst (v := 0) S dL_ahead_2 (by decide) ?_
  refine z_aload_n S dL_ahead_3 rfl 0 rfl ?_
  refine z_iload_n S dL_ahead_4 rfl 1 rfl ?_
  refine z_iload_n S dL_ahead_5 rfl 2 rfl ?_
  refine z_iload_n S dL_ahead_6 rfl 3 rfl ?_
  refine z_hVI (v := 0) (As := [.int a1, .int a2, .int a3]) (rest := [.int 0, .ref (X.2.2 108)]) S ⟨by decide, by decide⟩ agr3c cv_RL_83 (K_X9_ahead hl0 he) ok2_1 (by decide) (q := (RX9, TX9, 17)) rfl rfl ⟨rfl, rfl⟩ ⟨Nat.le_of_ble_eq_true rfl, Nat.le_of_ble_eq_true rfl⟩ ⟨Nat.le_of_ble_eq_true rfl, Nat.le_of_ble_eq_true rfl⟩ rfl rfl (Nat.le_of_ble_eq_true rfl) dL_ahead_7 (fun u hu => ?_) (fun E hE => ?_)
  · subst hu
    replace hw : wrO [(2, 1), (1, 2), (4, 3)] u g = some (r, N, g2) := hw
    rcases wrO_cons hw with ⟨hk, rfl, rfl, rfl⟩ | hw
    · refine ⟨15, ⟨[], ⟨0, 12, 15, 24⟩, [⟨0, 12, 19, 13⟩, ⟨0, 12, 23, 26⟩], "java/lang/IndexOutOfBoundsException", T, (fun z hz => nomatch hz), by decide, by decide, S.1.2.2.2.2 _ cl_RL_24, by rw [hk]; exact NW_use nw_c2 (S.2.2.2.2.2.1 _ nw_c2), rfl⟩, fun q9 => ?_⟩
      rw [mix3c]
      refine z_astore (lv' := []) S [] dL_ahead_15 (by decide) rfl ?_
      refine z_iconst (v := 1) S dL_ahead_17 (by decide) ?_
      exact z_wret S rfl (by decide) (by decide) dL_ahead_18
    rcases wrO_cons hw with ⟨hk, rfl, rfl, rfl⟩ | hw
    · refine ⟨19, ⟨[⟨0, 12, 15, 24⟩], ⟨0, 12, 19, 13⟩, [⟨0, 12, 23, 26⟩], "java/lang/IllegalArgumentException", T, (fun z hz => Or.inr (by
        rcases List.mem_cons.mp hz with rfl | hz
        · exact ⟨by decide, "java/lang/IndexOutOfBoundsException", S.1.2.2.2.2 _ cl_RL_24, by rw [hk]; exact hNC ("java/lang/IllegalArgumentException", "java/lang/IndexOutOfBoundsException") (by decide)⟩
        exact nomatch hz)), by decide, by decide, S.1.2.2.2.2 _ cl_RL_13, by rw [hk]; exact NW_use nw_c1 (S.2.2.2.2.2.1 _ nw_c1), rfl⟩, fun q9 => ?_⟩
      rw [mix3c]
      refine z_astore (lv' := []) S [] dL_ahead_19 (by decide) rfl ?_
      refine z_iconst (v := 2) S dL_ahead_21 (by decide) ?_
      exact z_wret S rfl (by decide) (by decide) dL_ahead_22
    rcases wrO_cons hw with ⟨hk, rfl, rfl, rfl⟩ | hw
    · refine ⟨23, ⟨[⟨0, 12, 15, 24⟩, ⟨0, 12, 19, 13⟩], ⟨0, 12, 23, 26⟩, [], "java/util/NoSuchElementException", T, (fun z hz => Or.inr (by
        rcases List.mem_cons.mp hz with rfl | hz
        · exact ⟨by decide, "java/lang/IndexOutOfBoundsException", S.1.2.2.2.2 _ cl_RL_24, by rw [hk]; exact hNC ("java/util/NoSuchElementException", "java/lang/IndexOutOfBoundsException") (by decide)⟩
        rcases List.mem_cons.mp hz with rfl | hz
        · exact ⟨by decide, "java/lang/IllegalArgumentException", S.1.2.2.2.2 _ cl_RL_13, by rw [hk]; exact hNC ("java/util/NoSuchElementException", "java/lang/IllegalArgumentException") (by decide)⟩
        exact nomatch hz)), by decide, by decide, S.1.2.2.2.2 _ cl_RL_26, by rw [hk]; exact NW_use nw_c4 (S.2.2.2.2.2.1 _ nw_c4), rfl⟩, fun q9 => ?_⟩
      rw [mix3c]
      refine z_astore (lv' := []) S [] dL_ahead_23 (by decide) rfl ?_
      refine z_iconst (v := 3) S dL_ahead_25 (by decide) ?_
      exact z_wret S rfl (by decide) (by decide) dL_ahead_26
    · exact (wrO_nil hw).elim
  · subst hE
    rw [mix3c]
    cases hw
    refine z_i2l S dL_ahead_10 ?_
    refine z_last (i := 108) (N := 1) (A := some ()) (x0 := ()) S ok_108 (by decide +kernel) (by decide) dL_ahead_11 (fun _ => ?_)
    refine z_memeq (sL3 (g := g)) ?_
    refine z_goto (tgt := 27) S dL_ahead_12 (by decide) ?_
    refine z_iconst (v := 0) S dL_ahead_27 (by decide) ?_
    exact z_wret S rfl (by decide) (by decide) dL_ahead_28
theorem cv_RL_44 : CV RL RX9 44 yX9_clean cX9_clean 4 2 (some .int) := ⟨TB_of (mt_5 (i := 101) (by decide +kernel)) (by decide +kernel), TB_of (mt_5 (i := 98) (by decide +kernel)) (by decide +kernel), TB_of (mt_5 (i := 99) (by decide +kernel)) (by decide +kernel), TB_of (mt_5 (i := 100) (by decide +kernel)) (by decide +kernel), TB_of (mt_1 (i := 1) (by decide +kernel)) (by decide +kernel), rfl, by decide, by decide, by decide +kernel⟩
def rm_L_clean : Room := rmx 8 264 3 18
set_option maxRecDepth 100000 in
set_option maxHeartbeats 4000000 in
theorem K_L_clean {X : Cx} {l : Launch} (hl0 : l.stackTraces = false) {Mc Mr N : Mm} {g g2 : Nat → Int64} {a1 : Int32} {a2 : Int32} {rx : (Int32 × Mm) ⊕ (Nat × Mm)} {r : Int32} (he : f_X9_clean Mc a1 a2 = some rx) (hw : wrI [(2, 1), (1, 2)] rx g = some (r, N, g2)) : KW X l yL_clean (wzh yL_clean cL_clean 5 (some .int) [(0, 10, 13, 24), (0, 10, 17, 13)]) rm_L_clean [.ref (X.2.2 1), .int a1, .int a2, .ref (X.2.2 108)] (mk3 Mc Mr g) r (mk3 N Mr g2) := by
  refine KW_of (own := RL) (lv0 := [(0, .ref (X.2.2 1)), (1, .int a1), (2, .int a2), (3, .ref (X.2.2 108))]) (by decide +kernel) rfl (Nat.le_of_ble_eq_true rfl) rfl (fun p e s m args below meth c S T hNC => ?_)
  refine z_aload_n S dL_clean_0 rfl 3 rfl ?_
  refine z_iconst (v := 0) S dL_clean_1 (by decide) ?_
  refine z_aload_n S dL_clean_2 rfl 0 rfl ?_
  refine z_iload_n S dL_clean_3 rfl 1 rfl ?_
  refine z_iload_n S dL_clean_4 rfl 2 rfl ?_
  refine z_hVI (v := 0) (As := [.int a1, .int a2]) (rest := [.int 0, .ref (X.2.2 108)]) S ⟨by decide, by decide⟩ agr3c cv_RL_44 (K_X9_clean hl0 he) ok2_1 (by decide) (q := (RX9, TX9, 17)) rfl rfl ⟨rfl, rfl⟩ ⟨Nat.le_of_ble_eq_true rfl, Nat.le_of_ble_eq_true rfl⟩ ⟨Nat.le_of_ble_eq_true rfl, Nat.le_of_ble_eq_true rfl⟩ rfl rfl (Nat.le_of_ble_eq_true rfl) dL_clean_5 (fun u hu => ?_) (fun E hE => ?_)
  · subst hu
    replace hw : wrO [(2, 1), (1, 2)] u g = some (r, N, g2) := hw
    rcases wrO_cons hw with ⟨hk, rfl, rfl, rfl⟩ | hw
    · refine ⟨13, ⟨[], ⟨0, 10, 13, 24⟩, [⟨0, 10, 17, 13⟩], "java/lang/IndexOutOfBoundsException", T, (fun z hz => nomatch hz), by decide, by decide, S.1.2.2.2.2 _ cl_RL_24, by rw [hk]; exact NW_use nw_c2 (S.2.2.2.2.2.1 _ nw_c2), rfl⟩, fun q9 => ?_⟩
      rw [mix3c]
      refine z_astore (lv' := []) S [] dL_clean_13 (by decide) rfl ?_
      refine z_iconst (v := 1) S dL_clean_15 (by decide) ?_
      exact z_wret S rfl (by decide) (by decide) dL_clean_16
    rcases wrO_cons hw with ⟨hk, rfl, rfl, rfl⟩ | hw
    · refine ⟨17, ⟨[⟨0, 10, 13, 24⟩], ⟨0, 10, 17, 13⟩, [], "java/lang/IllegalArgumentException", T, (fun z hz => Or.inr (by
        rcases List.mem_cons.mp hz with rfl | hz
        · exact ⟨by decide, "java/lang/IndexOutOfBoundsException", S.1.2.2.2.2 _ cl_RL_24, by rw [hk]; exact hNC ("java/lang/IllegalArgumentException", "java/lang/IndexOutOfBoundsException") (by decide)⟩
        exact nomatch hz)), by decide, by decide, S.1.2.2.2.2 _ cl_RL_13, by rw [hk]; exact NW_use nw_c1 (S.2.2.2.2.2.1 _ nw_c1), rfl⟩, fun q9 => ?_⟩
      rw [mix3c]
      refine z_astore (lv' := []) S [] dL_clean_17 (by decide) rfl ?_
      refine z_iconst (v := 2) S dL_clean_19 (by decide) ?_
      exact z_wret S rfl (by decide) (by decide) dL_clean_20
    · exact (wrO_nil hw).elim
  · subst hE
    rw [mix3c]
    cases hw
    refine z_i2l S dL_clean_8 ?_
    refine z_last (i := 108) (N := 1) (A := some ()) (x0 := ()) S ok_108 (by decide +kernel) (by decide) dL_clean_9 (fun _ => ?_)
    refine z_memeq (sL3 (g := g)) ?_
    refine z_goto (tgt := 21) S dL_clean_10 (by decide) ?_
    refine z_iconst (v := 0) S dL_clean_21 (by decide) ?_
    exact z_wret S rfl (by decide) (by decide) dL_clean_22
theorem cv_RL_89 : CV RL RX9 89 yX9_comes cX9_comes 3 1 (some .int) := ⟨TB_of (mt_6 (i := 67) (by decide +kernel)) (by decide +kernel), TB_of (mt_6 (i := 64) (by decide +kernel)) (by decide +kernel), TB_of (mt_6 (i := 65) (by decide +kernel)) (by decide +kernel), TB_of (mt_6 (i := 66) (by decide +kernel)) (by decide +kernel), TB_of (mt_1 (i := 1) (by decide +kernel)) (by decide +kernel), rfl, by decide, by decide, by decide +kernel⟩
def rm_L_comes : Room := rmx 8 243 3 18
set_option maxRecDepth 100000 in
set_option maxHeartbeats 4000000 in
theorem K_L_comes {X : Cx} {l : Launch} (hl0 : l.stackTraces = false) {Mc Mr N : Mm} {g g2 : Nat → Int64} {a1 : Int32} {rx : (Int32 × Mm) ⊕ (Nat × Mm)} {r : Int32} (he : f_X9_comes Mc a1 = some rx) (hw : wrI [(2, 1)] rx g = some (r, N, g2)) : KW X l yL_comes (wzh yL_comes cL_comes 4 (some .int) [(0, 9, 12, 24)]) rm_L_comes [.ref (X.2.2 1), .int a1, .ref (X.2.2 108)] (mk3 Mc Mr g) r (mk3 N Mr g2) := by
  refine KW_of (own := RL) (lv0 := [(0, .ref (X.2.2 1)), (1, .int a1), (2, .ref (X.2.2 108))]) (by decide +kernel) rfl (Nat.le_of_ble_eq_true rfl) rfl (fun p e s m args below meth c S T hNC => ?_)
  refine z_aload_n S dL_comes_0 rfl 2 rfl ?_
  refine z_iconst (v := 0) S dL_comes_1 (by decide) ?_
  refine z_aload_n S dL_comes_2 rfl 0 rfl ?_
  refine z_iload_n S dL_comes_3 rfl 1 rfl ?_
  refine z_hVI (v := 0) (As := [.int a1]) (rest := [.int 0, .ref (X.2.2 108)]) S ⟨by decide, by decide⟩ agr3c cv_RL_89 (K_X9_comes hl0 he) ok2_1 (by decide) (q := (RX9, TX9, 17)) rfl rfl ⟨rfl, rfl⟩ ⟨Nat.le_of_ble_eq_true rfl, Nat.le_of_ble_eq_true rfl⟩ ⟨Nat.le_of_ble_eq_true rfl, Nat.le_of_ble_eq_true rfl⟩ rfl rfl (Nat.le_of_ble_eq_true rfl) dL_comes_4 (fun u hu => ?_) (fun E hE => ?_)
  · subst hu
    replace hw : wrO [(2, 1)] u g = some (r, N, g2) := hw
    rcases wrO_cons hw with ⟨hk, rfl, rfl, rfl⟩ | hw
    · refine ⟨12, ⟨[], ⟨0, 9, 12, 24⟩, [], "java/lang/IndexOutOfBoundsException", T, (fun z hz => nomatch hz), by decide, by decide, S.1.2.2.2.2 _ cl_RL_24, by rw [hk]; exact NW_use nw_c2 (S.2.2.2.2.2.1 _ nw_c2), rfl⟩, fun q9 => ?_⟩
      rw [mix3c]
      refine z_astore_n (lv' := []) S [] dL_comes_12 rfl (by decide) rfl ?_
      refine z_iconst (v := 1) S dL_comes_13 (by decide) ?_
      exact z_wret S rfl (by decide) (by decide) dL_comes_14
    · exact (wrO_nil hw).elim
  · subst hE
    rw [mix3c]
    cases hw
    refine z_i2l S dL_comes_7 ?_
    refine z_last (i := 108) (N := 1) (A := some ()) (x0 := ()) S ok_108 (by decide +kernel) (by decide) dL_comes_8 (fun _ => ?_)
    refine z_memeq (sL3 (g := g)) ?_
    refine z_goto (tgt := 15) S dL_comes_9 (by decide) ?_
    refine z_iconst (v := 0) S dL_comes_15 (by decide) ?_
    exact z_wret S rfl (by decide) (by decide) dL_comes_16
theorem cv_RL_55 : CV RL RX9 55 yX9_days cX9_days 2 1 (some .int) := ⟨TB_of (mt_5 (i := 131) (by decide +kernel)) (by decide +kernel), TB_of (mt_5 (i := 128) (by decide +kernel)) (by decide +kernel), TB_of (mt_5 (i := 129) (by decide +kernel)) (by decide +kernel), TB_of (mt_5 (i := 130) (by decide +kernel)) (by decide +kernel), TB_of (mt_1 (i := 1) (by decide +kernel)) (by decide +kernel), rfl, by decide, by decide, by decide +kernel⟩
def rm_L_days : Room := rmx 8 262 3 18
set_option maxRecDepth 100000 in
set_option maxHeartbeats 4000000 in
theorem K_L_days {X : Cx} {l : Launch} (hl0 : l.stackTraces = false) {Mc Mr N : Mm} {g g2 : Nat → Int64} {a1 : Int32} {rx : (Int32 × Mm) ⊕ (Nat × Mm)} {r : Int32} (he : f_X9_days Mc a1 = some rx) (hw : wrI [(1, 1)] rx g = some (r, N, g2)) : KW X l yL_days (wzh yL_days cL_days 4 (some .int) [(0, 9, 12, 13)]) rm_L_days [.ref (X.2.2 1), .int a1, .ref (X.2.2 108)] (mk3 Mc Mr g) r (mk3 N Mr g2) := by
  refine KW_of (own := RL) (lv0 := [(0, .ref (X.2.2 1)), (1, .int a1), (2, .ref (X.2.2 108))]) (by decide +kernel) rfl (Nat.le_of_ble_eq_true rfl) rfl (fun p e s m args below meth c S T hNC => ?_)
  refine z_aload_n S dL_days_0 rfl 2 rfl ?_
  refine z_iconst (v := 0) S dL_days_1 (by decide) ?_
  refine z_aload_n S dL_days_2 rfl 0 rfl ?_
  refine z_iload_n S dL_days_3 rfl 1 rfl ?_
  refine z_hVI (v := 0) (As := [.int a1]) (rest := [.int 0, .ref (X.2.2 108)]) S ⟨by decide, by decide⟩ agr3c cv_RL_55 (K_X9_days hl0 he) ok2_1 (by decide) (q := (RX9, TX9, 17)) rfl rfl ⟨rfl, rfl⟩ ⟨Nat.le_of_ble_eq_true rfl, Nat.le_of_ble_eq_true rfl⟩ ⟨Nat.le_of_ble_eq_true rfl, Nat.le_of_ble_eq_true rfl⟩ rfl rfl (Nat.le_of_ble_eq_true rfl) dL_days_4 (fun u hu => ?_) (fun E hE => ?_)
  · subst hu
    replace hw : wrO [(1, 1)] u g = some (r, N, g2) := hw
    rcases wrO_cons hw with ⟨hk, rfl, rfl, rfl⟩ | hw
    · refine ⟨12, ⟨[], ⟨0, 9, 12, 13⟩, [], "java/lang/IllegalArgumentException", T, (fun z hz => nomatch hz), by decide, by decide, S.1.2.2.2.2 _ cl_RL_13, by rw [hk]; exact NW_use nw_c1 (S.2.2.2.2.2.1 _ nw_c1), rfl⟩, fun q9 => ?_⟩
      rw [mix3c]
      refine z_astore_n (lv' := []) S [] dL_days_12 rfl (by decide) rfl ?_
      refine z_iconst (v := 1) S dL_days_13 (by decide) ?_
      exact z_wret S rfl (by decide) (by decide) dL_days_14
    · exact (wrO_nil hw).elim
  · subst hE
    rw [mix3c]
    cases hw
    refine z_i2l S dL_days_7 ?_
    refine z_last (i := 108) (N := 1) (A := some ()) (x0 := ()) S ok_108 (by decide +kernel) (by decide) dL_days_8 (fun _ => ?_)
    refine z_memeq (sL3 (g := g)) ?_
    refine z_goto (tgt := 15) S dL_days_9 (by decide) ?_
    refine z_iconst (v := 0) S dL_days_15 (by decide) ?_
    exact z_wret S rfl (by decide) (by decide) dL_days_16
theorem cv_RL_59 : CV RL RX9 59 yX9_dearest cX9_dearest 2 1 (some .int) := ⟨TB_of (mt_5 (i := 157) (by decide +kernel)) (by decide +kernel), TB_of (mt_5 (i := 154) (by decide +kernel)) (by decide +kernel), TB_of (mt_5 (i := 155) (by decide +kernel)) (by decide +kernel), TB_of (mt_5 (i := 156) (by decide +kernel)) (by decide +kernel), TB_of (mt_1 (i := 1) (by decide +kernel)) (by decide +kernel), rfl, by decide, by decide, by decide +kernel⟩
def rm_L_dearest : Room := rmx 8 141 3 18
set_option maxRecDepth 100000 in
set_option maxHeartbeats 4000000 in
theorem K_L_dearest {X : Cx} {l : Launch} (hl0 : l.stackTraces = false) {Mc Mr N : Mm} {g g2 : Nat → Int64} {a1 : Int32} {rx : (Int32 × Mm) ⊕ (Nat × Mm)} {r : Int32} (he : f_X9_dearest Mc a1 = some rx) (hw : wrI [(2, 1)] rx g = some (r, N, g2)) : KW X l yL_dearest (wzh yL_dearest cL_dearest 4 (some .int) [(0, 9, 12, 24)]) rm_L_dearest [.ref (X.2.2 1), .int a1, .ref (X.2.2 108)] (mk3 Mc Mr g) r (mk3 N Mr g2) := by
  refine KW_of (own := RL) (lv0 := [(0, .ref (X.2.2 1)), (1, .int a1), (2, .ref (X.2.2 108))]) (by decide +kernel) rfl (Nat.le_of_ble_eq_true rfl) rfl (fun p e s m args below meth c S T hNC => ?_)
  refine z_aload_n S dL_dearest_0 rfl 2 rfl ?_
  refine z_iconst (v := 0) S dL_dearest_1 (by decide) ?_
  refine z_aload_n S dL_dearest_2 rfl 0 rfl ?_
  refine z_iload_n S dL_dearest_3 rfl 1 rfl ?_
  refine z_hVI (v := 0) (As := [.int a1]) (rest := [.int 0, .ref (X.2.2 108)]) S ⟨by decide, by decide⟩ agr3c cv_RL_59 (K_X9_dearest hl0 he) ok2_1 (by decide) (q := (RX9, TX9, 17)) rfl rfl ⟨rfl, rfl⟩ ⟨Nat.le_of_ble_eq_true rfl, Nat.le_of_ble_eq_true rfl⟩ ⟨Nat.le_of_ble_eq_true rfl, Nat.le_of_ble_eq_true rfl⟩ rfl rfl (Nat.le_of_ble_eq_true rfl) dL_dearest_4 (fun u hu => ?_) (fun E hE => ?_)
  · subst hu
    replace hw : wrO [(2, 1)] u g = some (r, N, g2) := hw
    rcases wrO_cons hw with ⟨hk, rfl, rfl, rfl⟩ | hw
    · refine ⟨12, ⟨[], ⟨0, 9, 12, 24⟩, [], "java/lang/IndexOutOfBoundsException", T, (fun z hz => nomatch hz), by decide, by decide, S.1.2.2.2.2 _ cl_RL_24, by rw [hk]; exact NW_use nw_c2 (S.2.2.2.2.2.1 _ nw_c2), rfl⟩, fun q9 => ?_⟩
      rw [mix3c]
      refine z_astore_n (lv' := []) S [] dL_dearest_12 rfl (by decide) rfl ?_
      refine z_iconst (v := 1) S dL_dearest_13 (by decide) ?_
      exact z_wret S rfl (by decide) (by decide) dL_dearest_14
    · exact (wrO_nil hw).elim
  · subst hE
    rw [mix3c]
    cases hw
    refine z_i2l S dL_dearest_7 ?_
    refine z_last (i := 108) (N := 1) (A := some ()) (x0 := ()) S ok_108 (by decide +kernel) (by decide) dL_dearest_8 (fun _ => ?_)
    refine z_memeq (sL3 (g := g)) ?_
    refine z_goto (tgt := 15) S dL_dearest_9 (by decide) ?_
    refine z_iconst (v := 0) S dL_dearest_15 (by decide) ?_
    exact z_wret S rfl (by decide) (by decide) dL_dearest_16
theorem cv_RL_69 : CV RL RX9 69 yX9_group cX9_group 7 2 (some .int) := ⟨TB_of (mt_5 (i := 234) (by decide +kernel)) (by decide +kernel), TB_of (mt_5 (i := 231) (by decide +kernel)) (by decide +kernel), TB_of (mt_5 (i := 232) (by decide +kernel)) (by decide +kernel), TB_of (mt_5 (i := 233) (by decide +kernel)) (by decide +kernel), TB_of (mt_1 (i := 1) (by decide +kernel)) (by decide +kernel), rfl, by decide, by decide, by decide +kernel⟩
def rm_L_group : Room := rmx 7 160 3 18
set_option maxRecDepth 100000 in
set_option maxHeartbeats 4000000 in
theorem K_L_group {X : Cx} {l : Launch} (hl0 : l.stackTraces = false) {Mc Mr N : Mm} {g g2 : Nat → Int64} {a1 : Int32} {a2 : Int32} {rx : (Int32 × Mm) ⊕ (Nat × Mm)} {r : Int32} (he : f_X9_group Mc a1 a2 = some rx) (hw : wrI [(2, 1)] rx g = some (r, N, g2)) : KW X l yL_group (wzh yL_group cL_group 5 (some .int) [(0, 10, 13, 24)]) rm_L_group [.ref (X.2.2 1), .int a1, .int a2, .ref (X.2.2 108)] (mk3 Mc Mr g) r (mk3 N Mr g2) := by
  refine KW_of (own := RL) (lv0 := [(0, .ref (X.2.2 1)), (1, .int a1), (2, .int a2), (3, .ref (X.2.2 108))]) (by decide +kernel) rfl (Nat.le_of_ble_eq_true rfl) rfl (fun p e s m args below meth c S T hNC => ?_)
  refine z_aload_n S dL_group_0 rfl 3 rfl ?_
  refine z_iconst (v := 0) S dL_group_1 (by decide) ?_
  refine z_aload_n S dL_group_2 rfl 0 rfl ?_
  refine z_iload_n S dL_group_3 rfl 1 rfl ?_
  refine z_iload_n S dL_group_4 rfl 2 rfl ?_
  refine z_hVI (v := 0) (As := [.int a1, .int a2]) (rest := [.int 0, .ref (X.2.2 108)]) S ⟨by decide, by decide⟩ agr3c cv_RL_69 (K_X9_group hl0 he) ok2_1 (by decide) (q := (RX9, TX9, 17)) rfl rfl ⟨rfl, rfl⟩ ⟨Nat.le_of_ble_eq_true rfl, Nat.le_of_ble_eq_true rfl⟩ ⟨Nat.le_of_ble_eq_true rfl, Nat.le_of_ble_eq_true rfl⟩ rfl rfl (Nat.le_of_ble_eq_true rfl) dL_group_5 (fun u hu => ?_) (fun E hE => ?_)
  · subst hu
    replace hw : wrO [(2, 1)] u g = some (r, N, g2) := hw
    rcases wrO_cons hw with ⟨hk, rfl, rfl, rfl⟩ | hw
    · refine ⟨13, ⟨[], ⟨0, 10, 13, 24⟩, [], "java/lang/IndexOutOfBoundsException", T, (fun z hz => nomatch hz), by decide, by decide, S.1.2.2.2.2 _ cl_RL_24, by rw [hk]; exact NW_use nw_c2 (S.2.2.2.2.2.1 _ nw_c2), rfl⟩, fun q9 => ?_⟩
      rw [mix3c]
      refine z_astore (lv' := []) S [] dL_group_13 (by decide) rfl ?_
      refine z_iconst (v := 1) S dL_group_15 (by decide) ?_
      exact z_wret S rfl (by decide) (by decide) dL_group_16
    · exact (wrO_nil hw).elim
  · subst hE
    rw [mix3c]
    cases hw
    refine z_i2l S dL_group_8 ?_
    refine z_last (i := 108) (N := 1) (A := some ()) (x0 := ()) S ok_108 (by decide +kernel) (by decide) dL_group_9 (fun _ => ?_)
    refine z_memeq (sL3 (g := g)) ?_
    refine z_goto (tgt := 17) S dL_group_10 (by decide) ?_
    refine z_iconst (v := 0) S dL_group_17 (by decide) ?_
    exact z_wret S rfl (by decide) (by decide) dL_group_18
theorem cv_RL_7 : CV RL RX9 7 yX9_hall cX9_hall 3 0 (some .int) := ⟨TB_of (mt_3 (i := 91) (by decide +kernel)) (by decide +kernel), TB_of (mt_3 (i := 88) (by decide +kernel)) (by decide +kernel), TB_of (mt_3 (i := 89) (by decide +kernel)) (by decide +kernel), TB_of (mt_3 (i := 90) (by decide +kernel)) (by decide +kernel), TB_of (mt_1 (i := 1) (by decide +kernel)) (by decide +kernel), rfl, by decide, by decide, by decide +kernel⟩
def rm_L_hall : Room := rmx 10 243 3 18
set_option maxRecDepth 100000 in
set_option maxHeartbeats 4000000 in
theorem K_L_hall {X : Cx} {l : Launch} (hl0 : l.stackTraces = false) {Mc Mr N : Mm} {g g2 : Nat → Int64} {rx : (Int32 × Mm) ⊕ (Nat × Mm)} {r : Int32} (he : f_X9_hall Mc  = some rx) (hw : wrI [(1, 1), (3, 2)] rx g = some (r, N, g2)) : KW X l yL_hall (wzh yL_hall cL_hall 3 (some .int) [(0, 8, 11, 13), (0, 8, 14, 15)]) rm_L_hall [.ref (X.2.2 1), .ref (X.2.2 108)] (mk3 Mc Mr g) r (mk3 N Mr g2) := by
  refine KW_of (own := RL) (lv0 := [(0, .ref (X.2.2 1)), (1, .ref (X.2.2 108))]) (by decide +kernel) rfl (Nat.le_of_ble_eq_true rfl) rfl (fun p e s m args below meth c S T hNC => ?_)
  refine z_aload_n S dL_hall_0 rfl 1 rfl ?_
  refine z_iconst (v := 0) S dL_hall_1 (by decide) ?_
  refine z_aload_n S dL_hall_2 rfl 0 rfl ?_
  refine z_hVI (v := 0) (As := []) (rest := [.int 0, .ref (X.2.2 108)]) S ⟨by decide, by decide⟩ agr3c cv_RL_7 (K_X9_hall hl0 he) ok2_1 (by decide) (q := (RX9, TX9, 17)) rfl rfl ⟨rfl, rfl⟩ ⟨Nat.le_of_ble_eq_true rfl, Nat.le_of_ble_eq_true rfl⟩ ⟨Nat.le_of_ble_eq_true rfl, Nat.le_of_ble_eq_true rfl⟩ rfl rfl (Nat.le_of_ble_eq_true rfl) dL_hall_3 (fun u hu => ?_) (fun E hE => ?_)
  · subst hu
    replace hw : wrO [(1, 1), (3, 2)] u g = some (r, N, g2) := hw
    rcases wrO_cons hw with ⟨hk, rfl, rfl, rfl⟩ | hw
    · refine ⟨11, ⟨[], ⟨0, 8, 11, 13⟩, [⟨0, 8, 14, 15⟩], "java/lang/IllegalArgumentException", T, (fun z hz => nomatch hz), by decide, by decide, S.1.2.2.2.2 _ cl_RL_13, by rw [hk]; exact NW_use nw_c1 (S.2.2.2.2.2.1 _ nw_c1), rfl⟩, fun q9 => ?_⟩
      rw [mix3c]
      refine z_astore_n (lv' := []) S [] dL_hall_11 rfl (by decide) rfl ?_
      refine z_iconst (v := 1) S dL_hall_12 (by decide) ?_
      exact z_wret S rfl (by decide) (by decide) dL_hall_13
    rcases wrO_cons hw with ⟨hk, rfl, rfl, rfl⟩ | hw
    · refine ⟨14, ⟨[⟨0, 8, 11, 13⟩], ⟨0, 8, 14, 15⟩, [], "java/lang/UnsupportedOperationException", T, (fun z hz => Or.inr (by
        rcases List.mem_cons.mp hz with rfl | hz
        · exact ⟨by decide, "java/lang/IllegalArgumentException", S.1.2.2.2.2 _ cl_RL_13, by rw [hk]; exact hNC ("java/lang/UnsupportedOperationException", "java/lang/IllegalArgumentException") (by decide)⟩
        exact nomatch hz)), by decide, by decide, S.1.2.2.2.2 _ cl_RL_15, by rw [hk]; exact NW_use nw_c3 (S.2.2.2.2.2.1 _ nw_c3), rfl⟩, fun q9 => ?_⟩
      rw [mix3c]
      refine z_astore_n (lv' := []) S [] dL_hall_14 rfl (by decide) rfl ?_
      refine z_iconst (v := 2) S dL_hall_15 (by decide) ?_
      exact z_wret S rfl (by decide) (by decide) dL_hall_16
    · exact (wrO_nil hw).elim
  · subst hE
    rw [mix3c]
    cases hw
    refine z_i2l S dL_hall_6 ?_
    refine z_last (i := 108) (N := 1) (A := some ()) (x0 := ()) S ok_108 (by decide +kernel) (by decide) dL_hall_7 (fun _ => ?_)
    refine z_memeq (sL3 (g := g)) ?_
    refine z_goto (tgt := 17) S dL_hall_8 (by decide) ?_
    refine z_iconst (v := 0) S dL_hall_17 (by decide) ?_
    exact z_wret S rfl (by decide) (by decide) dL_hall_18
theorem cv_RL_37 : CV RL RX9 37 yX9_hold cX9_hold 4 2 (some .int) := ⟨TB_of (mt_5 (i := 86) (by decide +kernel)) (by decide +kernel), TB_of (mt_5 (i := 83) (by decide +kernel)) (by decide +kernel), TB_of (mt_5 (i := 84) (by decide +kernel)) (by decide +kernel), TB_of (mt_5 (i := 85) (by decide +kernel)) (by decide +kernel), TB_of (mt_1 (i := 1) (by decide +kernel)) (by decide +kernel), rfl, by decide, by decide, by decide +kernel⟩
def rm_L_hold : Room := rmx 8 264 3 18
set_option maxRecDepth 100000 in
set_option maxHeartbeats 4000000 in
theorem K_L_hold {X : Cx} {l : Launch} (hl0 : l.stackTraces = false) {Mc Mr N : Mm} {g g2 : Nat → Int64} {a1 : Int32} {a2 : Int32} {rx : (Int32 × Mm) ⊕ (Nat × Mm)} {r : Int32} (he : f_X9_hold Mc a1 a2 = some rx) (hw : wrI [(2, 1), (1, 2)] rx g = some (r, N, g2)) : KW X l yL_hold (wzh yL_hold cL_hold 5 (some .int) [(0, 10, 13, 24), (0, 10, 17, 13)]) rm_L_hold [.ref (X.2.2 1), .int a1, .int a2, .ref (X.2.2 108)] (mk3 Mc Mr g) r (mk3 N Mr g2) := by
  refine KW_of (own := RL) (lv0 := [(0, .ref (X.2.2 1)), (1, .int a1), (2, .int a2), (3, .ref (X.2.2 108))]) (by decide +kernel) rfl (Nat.le_of_ble_eq_true rfl) rfl (fun p e s m args below meth c S T hNC => ?_)
  refine z_aload_n S dL_hold_0 rfl 3 rfl ?_
  refine z_iconst (v := 0) S dL_hold_1 (by decide) ?_
  refine z_aload_n S dL_hold_2 rfl 0 rfl ?_
  refine z_iload_n S dL_hold_3 rfl 1 rfl ?_
  refine z_iload_n S dL_hold_4 rfl 2 rfl ?_
  refine z_hVI (v := 0) (As := [.int a1, .int a2]) (rest := [.int 0, .ref (X.2.2 108)]) S ⟨by decide, by decide⟩ agr3c cv_RL_37 (K_X9_hold hl0 he) ok2_1 (by decide) (q := (RX9, TX9, 17)) rfl rfl ⟨rfl, rfl⟩ ⟨Nat.le_of_ble_eq_true rfl, Nat.le_of_ble_eq_true rfl⟩ ⟨Nat.le_of_ble_eq_true rfl, Nat.le_of_ble_eq_true rfl⟩ rfl rfl (Nat.le_of_ble_eq_true rfl) dL_hold_5 (fun u hu => ?_) (fun E hE => ?_)
  · subst hu
    replace hw : wrO [(2, 1), (1, 2)] u g = some (r, N, g2) := hw
    rcases wrO_cons hw with ⟨hk, rfl, rfl, rfl⟩ | hw
    · refine ⟨13, ⟨[], ⟨0, 10, 13, 24⟩, [⟨0, 10, 17, 13⟩], "java/lang/IndexOutOfBoundsException", T, (fun z hz => nomatch hz), by decide, by decide, S.1.2.2.2.2 _ cl_RL_24, by rw [hk]; exact NW_use nw_c2 (S.2.2.2.2.2.1 _ nw_c2), rfl⟩, fun q9 => ?_⟩
      rw [mix3c]
      refine z_astore (lv' := []) S [] dL_hold_13 (by decide) rfl ?_
      refine z_iconst (v := 1) S dL_hold_15 (by decide) ?_
      exact z_wret S rfl (by decide) (by decide) dL_hold_16
    rcases wrO_cons hw with ⟨hk, rfl, rfl, rfl⟩ | hw
    · refine ⟨17, ⟨[⟨0, 10, 13, 24⟩], ⟨0, 10, 17, 13⟩, [], "java/lang/IllegalArgumentException", T, (fun z hz => Or.inr (by
        rcases List.mem_cons.mp hz with rfl | hz
        · exact ⟨by decide, "java/lang/IndexOutOfBoundsException", S.1.2.2.2.2 _ cl_RL_24, by rw [hk]; exact hNC ("java/lang/IllegalArgumentException", "java/lang/IndexOutOfBoundsException") (by decide)⟩
        exact nomatch hz)), by decide, by decide, S.1.2.2.2.2 _ cl_RL_13, by rw [hk]; exact NW_use nw_c1 (S.2.2.2.2.2.1 _ nw_c1), rfl⟩, fun q9 => ?_⟩
      rw [mix3c]
      refine z_astore (lv' := []) S [] dL_hold_17 (by decide) rfl ?_
      refine z_iconst (v := 2) S dL_hold_19 (by decide) ?_
      exact z_wret S rfl (by decide) (by decide) dL_hold_20
    · exact (wrO_nil hw).elim
  · subst hE
    rw [mix3c]
    cases hw
    refine z_i2l S dL_hold_8 ?_
    refine z_last (i := 108) (N := 1) (A := some ()) (x0 := ()) S ok_108 (by decide +kernel) (by decide) dL_hold_9 (fun _ => ?_)
    refine z_memeq (sL3 (g := g)) ?_
    refine z_goto (tgt := 21) S dL_hold_10 (by decide) ?_
    refine z_iconst (v := 0) S dL_hold_21 (by decide) ?_
    exact z_wret S rfl (by decide) (by decide) dL_hold_22
theorem cv_RL_86 : CV RL RX9 86 yX9_last cX9_last 6 2 (some .int) := ⟨TB_of (mt_6 (i := 60) (by decide +kernel)) (by decide +kernel), TB_of (mt_6 (i := 57) (by decide +kernel)) (by decide +kernel), TB_of (mt_6 (i := 58) (by decide +kernel)) (by decide +kernel), TB_of (mt_6 (i := 59) (by decide +kernel)) (by decide +kernel), TB_of (mt_1 (i := 1) (by decide +kernel)) (by decide +kernel), rfl, by decide, by decide, by decide +kernel⟩
def rm_L_last : Room := rmx 8 246 3 18
set_option maxRecDepth 100000 in
set_option maxHeartbeats 4000000 in
theorem K_L_last {X : Cx} {l : Launch} (hl0 : l.stackTraces = false) {Mc Mr N : Mm} {g g2 : Nat → Int64} {a1 : Int32} {a2 : Int32} {rx : (Int32 × Mm) ⊕ (Nat × Mm)} {r : Int32} (he : f_X9_last Mc a1 a2 = some rx) (hw : wrI [(2, 1)] rx g = some (r, N, g2)) : KW X l yL_last (wzh yL_last cL_last 5 (some .int) [(0, 10, 13, 24)]) rm_L_last [.ref (X.2.2 1), .int a1, .int a2, .ref (X.2.2 108)] (mk3 Mc Mr g) r (mk3 N Mr g2) := by
  refine KW_of (own := RL) (lv0 := [(0, .ref (X.2.2 1)), (1, .int a1), (2, .int a2), (3, .ref (X.2.2 108))]) (by decide +kernel) rfl (Nat.le_of_ble_eq_true rfl) rfl (fun p e s m args below meth c S T hNC => ?_)
  refine z_aload_n S dL_last_0 rfl 3 rfl ?_
  refine z_iconst (v := 0) S dL_last_1 (by decide) ?_
  refine z_aload_n S dL_last_2 rfl 0 rfl ?_
  refine z_iload_n S dL_last_3 rfl 1 rfl ?_
  refine z_iload_n S dL_last_4 rfl 2 rfl ?_
  refine z_hVI (v := 0) (As := [.int a1, .int a2]) (rest := [.int 0, .ref (X.2.2 108)]) S ⟨by decide, by decide⟩ agr3c cv_RL_86 (K_X9_last hl0 he) ok2_1 (by decide) (q := (RX9, TX9, 17)) rfl rfl ⟨rfl, rfl⟩ ⟨Nat.le_of_ble_eq_true rfl, Nat.le_of_ble_eq_true rfl⟩ ⟨Nat.le_of_ble_eq_true rfl, Nat.le_of_ble_eq_true rfl⟩ rfl rfl (Nat.le_of_ble_eq_true rfl) dL_last_5 (fun u hu => ?_) (fun E hE => ?_)
  · subst hu
    replace hw : wrO [(2, 1)] u g = some (r, N, g2) := hw
    rcases wrO_cons hw with ⟨hk, rfl, rfl, rfl⟩ | hw
    · refine ⟨13, ⟨[], ⟨0, 10, 13, 24⟩, [], "java/lang/IndexOutOfBoundsException", T, (fun z hz => nomatch hz), by decide, by decide, S.1.2.2.2.2 _ cl_RL_24, by rw [hk]; exact NW_use nw_c2 (S.2.2.2.2.2.1 _ nw_c2), rfl⟩, fun q9 => ?_⟩
      rw [mix3c]
      refine z_astore (lv' := []) S [] dL_last_13 (by decide) rfl ?_
      refine z_iconst (v := 1) S dL_last_15 (by decide) ?_
      exact z_wret S rfl (by decide) (by decide) dL_last_16
    · exact (wrO_nil hw).elim
  · subst hE
    rw [mix3c]
    cases hw
    refine z_i2l S dL_last_8 ?_
    refine z_last (i := 108) (N := 1) (A := some ()) (x0 := ()) S ok_108 (by decide +kernel) (by decide) dL_last_9 (fun _ => ?_)
    refine z_memeq (sL3 (g := g)) ?_
    refine z_goto (tgt := 17) S dL_last_10 (by decide) ?_
    refine z_iconst (v := 0) S dL_last_17 (by decide) ?_
    exact z_wret S rfl (by decide) (by decide) dL_last_18
theorem cv_RL_17 : CV RL RX9 17 yX9_law cX9_law 3 0 (some .int) := ⟨TB_of (mt_4 (i := 134) (by decide +kernel)) (by decide +kernel), TB_of (mt_4 (i := 131) (by decide +kernel)) (by decide +kernel), TB_of (mt_4 (i := 132) (by decide +kernel)) (by decide +kernel), TB_of (mt_4 (i := 133) (by decide +kernel)) (by decide +kernel), TB_of (mt_1 (i := 1) (by decide +kernel)) (by decide +kernel), rfl, by decide, by decide, by decide +kernel⟩
def rm_L_law : Room := rmx 10 241 3 18
set_option maxRecDepth 100000 in
set_option maxHeartbeats 4000000 in
theorem K_L_law {X : Cx} {l : Launch} (hl0 : l.stackTraces = false) {Mc Mr N : Mm} {g g2 : Nat → Int64} {rx : (Int32 × Mm) ⊕ (Nat × Mm)} {r : Int32} (he : f_X9_law Mc  = some rx) (hw : wrI [(1, 1)] rx g = some (r, N, g2)) : KW X l yL_law (wzh yL_law cL_law 3 (some .int) [(0, 8, 11, 13)]) rm_L_law [.ref (X.2.2 1), .ref (X.2.2 108)] (mk3 Mc Mr g) r (mk3 N Mr g2) := by
  refine KW_of (own := RL) (lv0 := [(0, .ref (X.2.2 1)), (1, .ref (X.2.2 108))]) (by decide +kernel) rfl (Nat.le_of_ble_eq_true rfl) rfl (fun p e s m args below meth c S T hNC => ?_)
  refine z_aload_n S dL_law_0 rfl 1 rfl ?_
  refine z_iconst (v := 0) S dL_law_1 (by decide) ?_
  refine z_aload_n S dL_law_2 rfl 0 rfl ?_
  refine z_hVI (v := 0) (As := []) (rest := [.int 0, .ref (X.2.2 108)]) S ⟨by decide, by decide⟩ agr3c cv_RL_17 (K_X9_law hl0 he) ok2_1 (by decide) (q := (RX9, TX9, 17)) rfl rfl ⟨rfl, rfl⟩ ⟨Nat.le_of_ble_eq_true rfl, Nat.le_of_ble_eq_true rfl⟩ ⟨Nat.le_of_ble_eq_true rfl, Nat.le_of_ble_eq_true rfl⟩ rfl rfl (Nat.le_of_ble_eq_true rfl) dL_law_3 (fun u hu => ?_) (fun E hE => ?_)
  · subst hu
    replace hw : wrO [(1, 1)] u g = some (r, N, g2) := hw
    rcases wrO_cons hw with ⟨hk, rfl, rfl, rfl⟩ | hw
    · refine ⟨11, ⟨[], ⟨0, 8, 11, 13⟩, [], "java/lang/IllegalArgumentException", T, (fun z hz => nomatch hz), by decide, by decide, S.1.2.2.2.2 _ cl_RL_13, by rw [hk]; exact NW_use nw_c1 (S.2.2.2.2.2.1 _ nw_c1), rfl⟩, fun q9 => ?_⟩
      rw [mix3c]
      refine z_astore_n (lv' := []) S [] dL_law_11 rfl (by decide) rfl ?_
      refine z_iconst (v := 1) S dL_law_12 (by decide) ?_
      exact z_wret S rfl (by decide) (by decide) dL_law_13
    · exact (wrO_nil hw).elim
  · subst hE
    rw [mix3c]
    cases hw
    refine z_i2l S dL_law_6 ?_
    refine z_last (i := 108) (N := 1) (A := some ()) (x0 := ()) S ok_108 (by decide +kernel) (by decide) dL_law_7 (fun _ => ?_)
    refine z_memeq (sL3 (g := g)) ?_
    refine z_goto (tgt := 14) S dL_law_8 (by decide) ?_
    refine z_iconst (v := 0) S dL_law_14 (by decide) ?_
    exact z_wret S rfl (by decide) (by decide) dL_law_15
theorem cv_RL_101 : CV RL RX9 101 yX9_led cX9_led 8 2 (some .int) := ⟨TB_of (mt_6 (i := 96) (by decide +kernel)) (by decide +kernel), TB_of (mt_6 (i := 93) (by decide +kernel)) (by decide +kernel), TB_of (mt_6 (i := 94) (by decide +kernel)) (by decide +kernel), TB_of (mt_6 (i := 95) (by decide +kernel)) (by decide +kernel), TB_of (mt_1 (i := 1) (by decide +kernel)) (by decide +kernel), rfl, by decide, by decide, by decide +kernel⟩
def rm_L_led : Room := rmx 8 130 3 18
set_option maxRecDepth 100000 in
set_option maxHeartbeats 4000000 in
theorem K_L_led {X : Cx} {l : Launch} (hl0 : l.stackTraces = false) {Mc Mr N : Mm} {g g2 : Nat → Int64} {a1 : Int32} {a2 : Int32} {rx : (Int32 × Mm) ⊕ (Nat × Mm)} {r : Int32} (he : f_X9_led Mc a1 a2 = some rx) (hw : wrI [(2, 1)] rx g = some (r, N, g2)) : KW X l yL_led (wzh yL_led cL_led 5 (some .int) [(0, 10, 13, 24)]) rm_L_led [.ref (X.2.2 1), .int a1, .int a2, .ref (X.2.2 108)] (mk3 Mc Mr g) r (mk3 N Mr g2) := by
  refine KW_of (own := RL) (lv0 := [(0, .ref (X.2.2 1)), (1, .int a1), (2, .int a2), (3, .ref (X.2.2 108))]) (by decide +kernel) rfl (Nat.le_of_ble_eq_true rfl) rfl (fun p e s m args below meth c S T hNC => ?_)
  refine z_aload_n S dL_led_0 rfl 3 rfl ?_
  refine z_iconst (v := 0) S dL_led_1 (by decide) ?_
  refine z_aload_n S dL_led_2 rfl 0 rfl ?_
  refine z_iload_n S dL_led_3 rfl 1 rfl ?_
  refine z_iload_n S dL_led_4 rfl 2 rfl ?_
  refine z_hVI (v := 0) (As := [.int a1, .int a2]) (rest := [.int 0, .ref (X.2.2 108)]) S ⟨by decide, by decide⟩ agr3c cv_RL_101 (K_X9_led hl0 he) ok2_1 (by decide) (q := (RX9, TX9, 17)) rfl rfl ⟨rfl, rfl⟩ ⟨Nat.le_of_ble_eq_true rfl, Nat.le_of_ble_eq_true rfl⟩ ⟨Nat.le_of_ble_eq_true rfl, Nat.le_of_ble_eq_true rfl⟩ rfl rfl (Nat.le_of_ble_eq_true rfl) dL_led_5 (fun u hu => ?_) (fun E hE => ?_)
  · subst hu
    replace hw : wrO [(2, 1)] u g = some (r, N, g2) := hw
    rcases wrO_cons hw with ⟨hk, rfl, rfl, rfl⟩ | hw
    · refine ⟨13, ⟨[], ⟨0, 10, 13, 24⟩, [], "java/lang/IndexOutOfBoundsException", T, (fun z hz => nomatch hz), by decide, by decide, S.1.2.2.2.2 _ cl_RL_24, by rw [hk]; exact NW_use nw_c2 (S.2.2.2.2.2.1 _ nw_c2), rfl⟩, fun q9 => ?_⟩
      rw [mix3c]
      refine z_astore (lv' := []) S [] dL_led_13 (by decide) rfl ?_
      refine z_iconst (v := 1) S dL_led_15 (by decide) ?_
      exact z_wret S rfl (by decide) (by decide) dL_led_16
    · exact (wrO_nil hw).elim
  · subst hE
    rw [mix3c]
    cases hw
    refine z_i2l S dL_led_8 ?_
    refine z_last (i := 108) (N := 1) (A := some ()) (x0 := ()) S ok_108 (by decide +kernel) (by decide) dL_led_9 (fun _ => ?_)
    refine z_memeq (sL3 (g := g)) ?_
    refine z_goto (tgt := 17) S dL_led_10 (by decide) ?_
    refine z_iconst (v := 0) S dL_led_17 (by decide) ?_
    exact z_wret S rfl (by decide) (by decide) dL_led_18
theorem cv_RL_31 : CV RL RX9 31 yX9_liking cX9_liking 3 2 (some .int) := ⟨TB_of (mt_5 (i := 59) (by decide +kernel)) (by decide +kernel), TB_of (mt_5 (i := 56) (by decide +kernel)) (by decide +kernel), TB_of (mt_5 (i := 57) (by decide +kernel)) (by decide +kernel), TB_of (mt_5 (i := 58) (by decide +kernel)) (by decide +kernel), TB_of (mt_1 (i := 1) (by decide +kernel)) (by decide +kernel), rfl, by decide, by decide, by decide +kernel⟩
def rm_L_liking : Room := rmx 8 125 3 18
set_option maxRecDepth 100000 in
set_option maxHeartbeats 4000000 in
theorem K_L_liking {X : Cx} {l : Launch} (hl0 : l.stackTraces = false) {Mc Mr N : Mm} {g g2 : Nat → Int64} {a1 : Int32} {a2 : Int32} {rx : (Int32 × Mm) ⊕ (Nat × Mm)} {r : Int32} (he : f_X9_liking Mc a1 a2 = some rx) (hw : wrI [(2, 1)] rx g = some (r, N, g2)) : KW X l yL_liking (wzh yL_liking cL_liking 5 (some .int) [(0, 10, 13, 24)]) rm_L_liking [.ref (X.2.2 1), .int a1, .int a2, .ref (X.2.2 108)] (mk3 Mc Mr g) r (mk3 N Mr g2) := by
  refine KW_of (own := RL) (lv0 := [(0, .ref (X.2.2 1)), (1, .int a1), (2, .int a2), (3, .ref (X.2.2 108))]) (by decide +kernel) rfl (Nat.le_of_ble_eq_true rfl) rfl (fun p e s m args below meth c S T hNC => ?_)
  refine z_aload_n S dL_liking_0 rfl 3 rfl ?_
  refine z_iconst (v := 0) S dL_liking_1 (by decide) ?_
  refine z_aload_n S dL_liking_2 rfl 0 rfl ?_
  refine z_iload_n S dL_liking_3 rfl 1 rfl ?_
  refine z_iload_n S dL_liking_4 rfl 2 rfl ?_
  refine z_hVI (v := 0) (As := [.int a1, .int a2]) (rest := [.int 0, .ref (X.2.2 108)]) S ⟨by decide, by decide⟩ agr3c cv_RL_31 (K_X9_liking hl0 he) ok2_1 (by decide) (q := (RX9, TX9, 17)) rfl rfl ⟨rfl, rfl⟩ ⟨Nat.le_of_ble_eq_true rfl, Nat.le_of_ble_eq_true rfl⟩ ⟨Nat.le_of_ble_eq_true rfl, Nat.le_of_ble_eq_true rfl⟩ rfl rfl (Nat.le_of_ble_eq_true rfl) dL_liking_5 (fun u hu => ?_) (fun E hE => ?_)
  · subst hu
    replace hw : wrO [(2, 1)] u g = some (r, N, g2) := hw
    rcases wrO_cons hw with ⟨hk, rfl, rfl, rfl⟩ | hw
    · refine ⟨13, ⟨[], ⟨0, 10, 13, 24⟩, [], "java/lang/IndexOutOfBoundsException", T, (fun z hz => nomatch hz), by decide, by decide, S.1.2.2.2.2 _ cl_RL_24, by rw [hk]; exact NW_use nw_c2 (S.2.2.2.2.2.1 _ nw_c2), rfl⟩, fun q9 => ?_⟩
      rw [mix3c]
      refine z_astore (lv' := []) S [] dL_liking_13 (by decide) rfl ?_
      refine z_iconst (v := 1) S dL_liking_15 (by decide) ?_
      exact z_wret S rfl (by decide) (by decide) dL_liking_16
    · exact (wrO_nil hw).elim
  · subst hE
    rw [mix3c]
    cases hw
    refine z_i2l S dL_liking_8 ?_
    refine z_last (i := 108) (N := 1) (A := some ()) (x0 := ()) S ok_108 (by decide +kernel) (by decide) dL_liking_9 (fun _ => ?_)
    refine z_memeq (sL3 (g := g)) ?_
    refine z_goto (tgt := 17) S dL_liking_10 (by decide) ?_
    refine z_iconst (v := 0) S dL_liking_17 (by decide) ?_
    exact z_wret S rfl (by decide) (by decide) dL_liking_18
theorem cv_RL_104 : CV RL RX9 104 yX9_log cX9_log 3 2 (some .int) := ⟨TB_of (mt_6 (i := 112) (by decide +kernel)) (by decide +kernel), TB_of (mt_6 (i := 109) (by decide +kernel)) (by decide +kernel), TB_of (mt_6 (i := 110) (by decide +kernel)) (by decide +kernel), TB_of (mt_6 (i := 111) (by decide +kernel)) (by decide +kernel), TB_of (mt_1 (i := 1) (by decide +kernel)) (by decide +kernel), rfl, by decide, by decide, by decide +kernel⟩
def rm_L_log : Room := rmx 7 104 3 18
set_option maxRecDepth 100000 in
set_option maxHeartbeats 4000000 in
theorem K_L_log {X : Cx} {l : Launch} (hl0 : l.stackTraces = false) {Mc Mr N : Mm} {g g2 : Nat → Int64} {a1 : Int32} {a2 : Int32} {rx : (Int32 × Mm) ⊕ (Nat × Mm)} {r : Int32} (he : f_X9_log Mc a1 a2 = some rx) (hw : wrI [(4, 1)] rx g = some (r, N, g2)) : KW X l yL_log (wzh yL_log cL_log 5 (some .int) [(0, 10, 13, 26)]) rm_L_log [.ref (X.2.2 1), .int a1, .int a2, .ref (X.2.2 108)] (mk3 Mc Mr g) r (mk3 N Mr g2) := by
  refine KW_of (own := RL) (lv0 := [(0, .ref (X.2.2 1)), (1, .int a1), (2, .int a2), (3, .ref (X.2.2 108))]) (by decide +kernel) rfl (Nat.le_of_ble_eq_true rfl) rfl (fun p e s m args below meth c S T hNC => ?_)
  refine z_aload_n S dL_log_0 rfl 3 rfl ?_
  refine z_iconst (v := 0) S dL_log_1 (by decide) ?_
  refine z_aload_n S dL_log_2 rfl 0 rfl ?_
  refine z_iload_n S dL_log_3 rfl 1 rfl ?_
  refine z_iload_n S dL_log_4 rfl 2 rfl ?_
  refine z_hVI (v := 0) (As := [.int a1, .int a2]) (rest := [.int 0, .ref (X.2.2 108)]) S ⟨by decide, by decide⟩ agr3c cv_RL_104 (K_X9_log hl0 he) ok2_1 (by decide) (q := (RX9, TX9, 17)) rfl rfl ⟨rfl, rfl⟩ ⟨Nat.le_of_ble_eq_true rfl, Nat.le_of_ble_eq_true rfl⟩ ⟨Nat.le_of_ble_eq_true rfl, Nat.le_of_ble_eq_true rfl⟩ rfl rfl (Nat.le_of_ble_eq_true rfl) dL_log_5 (fun u hu => ?_) (fun E hE => ?_)
  · subst hu
    replace hw : wrO [(4, 1)] u g = some (r, N, g2) := hw
    rcases wrO_cons hw with ⟨hk, rfl, rfl, rfl⟩ | hw
    · refine ⟨13, ⟨[], ⟨0, 10, 13, 26⟩, [], "java/util/NoSuchElementException", T, (fun z hz => nomatch hz), by decide, by decide, S.1.2.2.2.2 _ cl_RL_26, by rw [hk]; exact NW_use nw_c4 (S.2.2.2.2.2.1 _ nw_c4), rfl⟩, fun q9 => ?_⟩
      rw [mix3c]
      refine z_astore (lv' := []) S [] dL_log_13 (by decide) rfl ?_
      refine z_iconst (v := 1) S dL_log_15 (by decide) ?_
      exact z_wret S rfl (by decide) (by decide) dL_log_16
    · exact (wrO_nil hw).elim
  · subst hE
    rw [mix3c]
    cases hw
    refine z_i2l S dL_log_8 ?_
    refine z_last (i := 108) (N := 1) (A := some ()) (x0 := ()) S ok_108 (by decide +kernel) (by decide) dL_log_9 (fun _ => ?_)
    refine z_memeq (sL3 (g := g)) ?_
    refine z_goto (tgt := 17) S dL_log_10 (by decide) ?_
    refine z_iconst (v := 0) S dL_log_17 (by decide) ?_
    exact z_wret S rfl (by decide) (by decide) dL_log_18
theorem cv_RL_47 : CV RL RX9 47 yX9_mark cX9_mark 6 3 (some .boolean) := ⟨TB_of (mt_5 (i := 110) (by decide +kernel)) (by decide +kernel), TB_of (mt_5 (i := 107) (by decide +kernel)) (by decide +kernel), TB_of (mt_5 (i := 108) (by decide +kernel)) (by decide +kernel), TB_of (mt_5 (i := 109) (by decide +kernel)) (by decide +kernel), TB_of (mt_1 (i := 1) (by decide +kernel)) (by decide +kernel), rfl, by decide, by decide, by decide +kernel⟩
def rm_L_mark : Room := rmx 8 266 3 18
set_option maxRecDepth 100000 in
set_option maxHeartbeats 4000000 in
theorem K_L_mark {X : Cx} {l : Launch} (hl0 : l.stackTraces = false) {Mc Mr N : Mm} {g g2 : Nat → Int64} {a1 : Int32} {a2 : Int32} {a3 : Int32} {rx : (Bool × Mm) ⊕ (Nat × Mm)} {r : Int32} (he : f_X9_mark Mc a1 a2 a3 = some rx) (hw : wrZ [(2, 1)] rx g = some (r, N, g2)) : KW X l yL_mark (wzh yL_mark cL_mark 6 (some .int) [(0, 19, 22, 24)]) rm_L_mark [.ref (X.2.2 1), .int a1, .int a2, .int a3, .ref (X.2.2 108)] (mk3 Mc Mr g) r (mk3 N Mr g2) := by
  refine KW_of (own := RL) (lv0 := [(0, .ref (X.2.2 1)), (1, .int a1), (2, .int a2), (3, .int a3), (4, .ref (X.2.2 108))]) (by decide +kernel) rfl (Nat.le_of_ble_eq_true rfl) rfl (fun p e s m args below meth c S T hNC => ?_)
  refine z_aload S dL_mark_0 4 rfl ?_
  refine z_iconst (v := 0) S dL_mark_2 (by decide) ?_
  refine z_aload_n S dL_mark_3 rfl 0 rfl ?_
  refine z_iload_n S dL_mark_4 rfl 1 rfl ?_
  refine z_iload_n S dL_mark_5 rfl 2 rfl ?_
  refine z_iload_n S dL_mark_6 rfl 3 rfl ?_
  refine z_hVZ (v := 0) (As := [.int a1, .int a2, .int a3]) (rest := [.int 0, .ref (X.2.2 108)]) S ⟨by decide, by decide⟩ agr3c cv_RL_47 (K_X9_mark hl0 he) ok2_1 (by decide) (q := (RX9, TX9, 17)) rfl rfl ⟨rfl, rfl⟩ ⟨Nat.le_of_ble_eq_true rfl, Nat.le_of_ble_eq_true rfl⟩ ⟨Nat.le_of_ble_eq_true rfl, Nat.le_of_ble_eq_true rfl⟩ rfl rfl (Nat.le_of_ble_eq_true rfl) dL_mark_7 (fun u hu => ?_) (fun E hE => ?_)
  · subst hu
    replace hw : wrO [(2, 1)] u g = some (r, N, g2) := hw
    rcases wrO_cons hw with ⟨hk, rfl, rfl, rfl⟩ | hw
    · refine ⟨22, ⟨[], ⟨0, 19, 22, 24⟩, [], "java/lang/IndexOutOfBoundsException", T, (fun z hz => nomatch hz), by decide, by decide, S.1.2.2.2.2 _ cl_RL_24, by rw [hk]; exact NW_use nw_c2 (S.2.2.2.2.2.1 _ nw_c2), rfl⟩, fun q9 => ?_⟩
      rw [mix3c]
      refine z_astore (lv' := []) S [] dL_mark_22 (by decide) rfl ?_
      refine z_iconst (v := 1) S dL_mark_24 (by decide) ?_
      exact z_wret S rfl (by decide) (by decide) dL_mark_25
    · exact (wrO_nil hw).elim
  · subst hE
    rw [mix3c]
    obtain ⟨b9, M9⟩ := E
    cases b9
    · cases hw
      refine z_if_eq (tgt := 17) (A := true) (B := false) (x0 := true) S (if_pos rfl) dL_mark_10 (by decide) (fun _ => ?_) (fun he => nomatch he)
      refine z_lconst (v := 0) S dL_mark_17 (by decide) ?_
      refine z_last (i := 108) (N := 1) (A := some ()) (x0 := ()) S ok_108 (by decide +kernel) (by decide) dL_mark_18 (fun _ => ?_)
      refine z_memeq (sL3 (g := g)) ?_
      refine z_goto (tgt := 26) S dL_mark_19 (by decide) ?_
      refine z_iconst (v := 0) S dL_mark_26 (by decide) ?_
      exact z_wret S rfl (by decide) (by decide) dL_mark_27
    · cases hw
      refine z_if_eq (tgt := 17) (A := true) (B := false) (x0 := false) S (if_neg (show ¬ (1 : Int32) = 0 by decide)) dL_mark_10 (by decide) (fun he => nomatch he) (fun _ => ?_)
      refine z_lconst (v := 1) S dL_mark_13 (by decide) ?_
      refine z_goto (tgt := 18) S dL_mark_14 (by decide) ?_
      refine z_last (i := 108) (N := 1) (A := some ()) (x0 := ()) S ok_108 (by decide +kernel) (by decide) dL_mark_18 (fun _ => ?_)
      refine z_memeq (sL3 (g := g)) ?_
      refine z_goto (tgt := 26) S dL_mark_19 (by decide) ?_
      refine z_iconst (v := 0) S dL_mark_26 (by decide) ?_
      exact z_wret S rfl (by decide) (by decide) dL_mark_27
theorem cv_RL_34 : CV RL RX9 34 yX9_move cX9_move 4 2 (some .int) := ⟨TB_of (mt_5 (i := 66) (by decide +kernel)) (by decide +kernel), TB_of (mt_5 (i := 63) (by decide +kernel)) (by decide +kernel), TB_of (mt_5 (i := 64) (by decide +kernel)) (by decide +kernel), TB_of (mt_5 (i := 65) (by decide +kernel)) (by decide +kernel), TB_of (mt_1 (i := 1) (by decide +kernel)) (by decide +kernel), rfl, by decide, by decide, by decide +kernel⟩
def rm_L_move : Room := rmx 8 264 3 18
set_option maxRecDepth 100000 in
set_option maxHeartbeats 4000000 in
theorem K_L_move {X : Cx} {l : Launch} (hl0 : l.stackTraces = false) {Mc Mr N : Mm} {g g2 : Nat → Int64} {a1 : Int32} {a2 : Int32} {rx : (Int32 × Mm) ⊕ (Nat × Mm)} {r : Int32} (he : f_X9_move Mc a1 a2 = some rx) (hw : wrI [(2, 1)] rx g = some (r, N, g2)) : KW X l yL_move (wzh yL_move cL_move 5 (some .int) [(0, 10, 13, 24)]) rm_L_move [.ref (X.2.2 1), .int a1, .int a2, .ref (X.2.2 108)] (mk3 Mc Mr g) r (mk3 N Mr g2) := by
  refine KW_of (own := RL) (lv0 := [(0, .ref (X.2.2 1)), (1, .int a1), (2, .int a2), (3, .ref (X.2.2 108))]) (by decide +kernel) rfl (Nat.le_of_ble_eq_true rfl) rfl (fun p e s m args below meth c S T hNC => ?_)
  refine z_aload_n S dL_move_0 rfl 3 rfl ?_
  refine z_iconst (v := 0) S dL_move_1 (by decide) ?_
  refine z_aload_n S dL_move_2 rfl 0 rfl ?_
  refine z_iload_n S dL_move_3 rfl 1 rfl ?_
  refine z_iload_n S dL_move_4 rfl 2 rfl ?_
  refine z_hVI (v := 0) (As := [.int a1, .int a2]) (rest := [.int 0, .ref (X.2.2 108)]) S ⟨by decide, by decide⟩ agr3c cv_RL_34 (K_X9_move hl0 he) ok2_1 (by decide) (q := (RX9, TX9, 17)) rfl rfl ⟨rfl, rfl⟩ ⟨Nat.le_of_ble_eq_true rfl, Nat.le_of_ble_eq_true rfl⟩ ⟨Nat.le_of_ble_eq_true rfl, Nat.le_of_ble_eq_true rfl⟩ rfl rfl (Nat.le_of_ble_eq_true rfl) dL_move_5 (fun u hu => ?_) (fun E hE => ?_)
  · subst hu
    replace hw : wrO [(2, 1)] u g = some (r, N, g2) := hw
    rcases wrO_cons hw with ⟨hk, rfl, rfl, rfl⟩ | hw
    · refine ⟨13, ⟨[], ⟨0, 10, 13, 24⟩, [], "java/lang/IndexOutOfBoundsException", T, (fun z hz => nomatch hz), by decide, by decide, S.1.2.2.2.2 _ cl_RL_24, by rw [hk]; exact NW_use nw_c2 (S.2.2.2.2.2.1 _ nw_c2), rfl⟩, fun q9 => ?_⟩
      rw [mix3c]
      refine z_astore (lv' := []) S [] dL_move_13 (by decide) rfl ?_
      refine z_iconst (v := 1) S dL_move_15 (by decide) ?_
      exact z_wret S rfl (by decide) (by decide) dL_move_16
    · exact (wrO_nil hw).elim
  · subst hE
    rw [mix3c]
    cases hw
    refine z_i2l S dL_move_8 ?_
    refine z_last (i := 108) (N := 1) (A := some ()) (x0 := ()) S ok_108 (by decide +kernel) (by decide) dL_move_9 (fun _ => ?_)
    refine z_memeq (sL3 (g := g)) ?_
    refine z_goto (tgt := 17) S dL_move_10 (by decide) ?_
    refine z_iconst (v := 0) S dL_move_17 (by decide) ?_
    exact z_wret S rfl (by decide) (by decide) dL_move_18
theorem cv_RL_62 : CV RL RX9 62 yX9_right cX9_right 7 2 (some .int) := ⟨TB_of (mt_5 (i := 215) (by decide +kernel)) (by decide +kernel), TB_of (mt_5 (i := 212) (by decide +kernel)) (by decide +kernel), TB_of (mt_5 (i := 213) (by decide +kernel)) (by decide +kernel), TB_of (mt_5 (i := 214) (by decide +kernel)) (by decide +kernel), TB_of (mt_1 (i := 1) (by decide +kernel)) (by decide +kernel), rfl, by decide, by decide, by decide +kernel⟩
def rm_L_right : Room := rmx 8 247 3 18
set_option maxRecDepth 100000 in
set_option maxHeartbeats 4000000 in
theorem K_L_right {X : Cx} {l : Launch} (hl0 : l.stackTraces = false) {Mc Mr N : Mm} {g g2 : Nat → Int64} {a1 : Int32} {a2 : Int32} {rx : (Int32 × Mm) ⊕ (Nat × Mm)} {r : Int32} (he : f_X9_right Mc a1 a2 = some rx) (hw : wrI [(2, 1)] rx g = some (r, N, g2)) : KW X l yL_right (wzh yL_right cL_right 5 (some .int) [(0, 10, 13, 24)]) rm_L_right [.ref (X.2.2 1), .int a1, .int a2, .ref (X.2.2 108)] (mk3 Mc Mr g) r (mk3 N Mr g2) := by
  refine KW_of (own := RL) (lv0 := [(0, .ref (X.2.2 1)), (1, .int a1), (2, .int a2), (3, .ref (X.2.2 108))]) (by decide +kernel) rfl (Nat.le_of_ble_eq_true rfl) rfl (fun p e s m args below meth c S T hNC => ?_)
  refine z_aload_n S dL_right_0 rfl 3 rfl ?_
  refine z_iconst (v := 0) S dL_right_1 (by decide) ?_
  refine z_aload_n S dL_right_2 rfl 0 rfl ?_
  refine z_iload_n S dL_right_3 rfl 1 rfl ?_
  refine z_iload_n S dL_right_4 rfl 2 rfl ?_
  refine z_hVI (v := 0) (As := [.int a1, .int a2]) (rest := [.int 0, .ref (X.2.2 108)]) S ⟨by decide, by decide⟩ agr3c cv_RL_62 (K_X9_right hl0 he) ok2_1 (by decide) (q := (RX9, TX9, 17)) rfl rfl ⟨rfl, rfl⟩ ⟨Nat.le_of_ble_eq_true rfl, Nat.le_of_ble_eq_true rfl⟩ ⟨Nat.le_of_ble_eq_true rfl, Nat.le_of_ble_eq_true rfl⟩ rfl rfl (Nat.le_of_ble_eq_true rfl) dL_right_5 (fun u hu => ?_) (fun E hE => ?_)
  · subst hu
    replace hw : wrO [(2, 1)] u g = some (r, N, g2) := hw
    rcases wrO_cons hw with ⟨hk, rfl, rfl, rfl⟩ | hw
    · refine ⟨13, ⟨[], ⟨0, 10, 13, 24⟩, [], "java/lang/IndexOutOfBoundsException", T, (fun z hz => nomatch hz), by decide, by decide, S.1.2.2.2.2 _ cl_RL_24, by rw [hk]; exact NW_use nw_c2 (S.2.2.2.2.2.1 _ nw_c2), rfl⟩, fun q9 => ?_⟩
      rw [mix3c]
      refine z_astore (lv' := []) S [] dL_right_13 (by decide) rfl ?_
      refine z_iconst (v := 1) S dL_right_15 (by decide) ?_
      exact z_wret S rfl (by decide) (by decide) dL_right_16
    · exact (wrO_nil hw).elim
  · subst hE
    rw [mix3c]
    cases hw
    refine z_i2l S dL_right_8 ?_
    refine z_last (i := 108) (N := 1) (A := some ()) (x0 := ()) S ok_108 (by decide +kernel) (by decide) dL_right_9 (fun _ => ?_)
    refine z_memeq (sL3 (g := g)) ?_
    refine z_goto (tgt := 17) S dL_right_10 (by decide) ?_
    refine z_iconst (v := 0) S dL_right_17 (by decide) ?_
    exact z_wret S rfl (by decide) (by decide) dL_right_18
theorem cv_RL_66 : CV RL RX9 66 yX9_rivals cX9_rivals 3 2 (some .int) := ⟨TB_of (mt_5 (i := 227) (by decide +kernel)) (by decide +kernel), TB_of (mt_5 (i := 224) (by decide +kernel)) (by decide +kernel), TB_of (mt_5 (i := 225) (by decide +kernel)) (by decide +kernel), TB_of (mt_5 (i := 226) (by decide +kernel)) (by decide +kernel), TB_of (mt_1 (i := 1) (by decide +kernel)) (by decide +kernel), rfl, by decide, by decide, by decide +kernel⟩
def rm_L_rivals : Room := rmx 8 135 3 18
set_option maxRecDepth 100000 in
set_option maxHeartbeats 4000000 in
theorem K_L_rivals {X : Cx} {l : Launch} (hl0 : l.stackTraces = false) {Mc Mr N : Mm} {g g2 : Nat → Int64} {a1 : Int32} {a2 : Int32} {rx : (Int32 × Mm) ⊕ (Nat × Mm)} {r : Int32} (he : f_X9_rivals Mc a1 a2 = some rx) (hw : wrI [(2, 1), (1, 2)] rx g = some (r, N, g2)) : KW X l yL_rivals (wzh yL_rivals cL_rivals 5 (some .int) [(0, 10, 13, 24), (0, 10, 17, 13)]) rm_L_rivals [.ref (X.2.2 1), .int a1, .int a2, .ref (X.2.2 108)] (mk3 Mc Mr g) r (mk3 N Mr g2) := by
  refine KW_of (own := RL) (lv0 := [(0, .ref (X.2.2 1)), (1, .int a1), (2, .int a2), (3, .ref (X.2.2 108))]) (by decide +kernel) rfl (Nat.le_of_ble_eq_true rfl) rfl (fun p e s m args below meth c S T hNC => ?_)
  refine z_aload_n S dL_rivals_0 rfl 3 rfl ?_
  refine z_iconst (v := 0) S dL_rivals_1 (by decide) ?_
  refine z_aload_n S dL_rivals_2 rfl 0 rfl ?_
  refine z_iload_n S dL_rivals_3 rfl 1 rfl ?_
  refine z_iload_n S dL_rivals_4 rfl 2 rfl ?_
  refine z_hVI (v := 0) (As := [.int a1, .int a2]) (rest := [.int 0, .ref (X.2.2 108)]) S ⟨by decide, by decide⟩ agr3c cv_RL_66 (K_X9_rivals hl0 he) ok2_1 (by decide) (q := (RX9, TX9, 17)) rfl rfl ⟨rfl, rfl⟩ ⟨Nat.le_of_ble_eq_true rfl, Nat.le_of_ble_eq_true rfl⟩ ⟨Nat.le_of_ble_eq_true rfl, Nat.le_of_ble_eq_true rfl⟩ rfl rfl (Nat.le_of_ble_eq_true rfl) dL_rivals_5 (fun u hu => ?_) (fun E hE => ?_)
  · subst hu
    replace hw : wrO [(2, 1), (1, 2)] u g = some (r, N, g2) := hw
    rcases wrO_cons hw with ⟨hk, rfl, rfl, rfl⟩ | hw
    · refine ⟨13, ⟨[], ⟨0, 10, 13, 24⟩, [⟨0, 10, 17, 13⟩], "java/lang/IndexOutOfBoundsException", T, (fun z hz => nomatch hz), by decide, by decide, S.1.2.2.2.2 _ cl_RL_24, by rw [hk]; exact NW_use nw_c2 (S.2.2.2.2.2.1 _ nw_c2), rfl⟩, fun q9 => ?_⟩
      rw [mix3c]
      refine z_astore (lv' := []) S [] dL_rivals_13 (by decide) rfl ?_
      refine z_iconst (v := 1) S dL_rivals_15 (by decide) ?_
      exact z_wret S rfl (by decide) (by decide) dL_rivals_16
    rcases wrO_cons hw with ⟨hk, rfl, rfl, rfl⟩ | hw
    · refine ⟨17, ⟨[⟨0, 10, 13, 24⟩], ⟨0, 10, 17, 13⟩, [], "java/lang/IllegalArgumentException", T, (fun z hz => Or.inr (by
        rcases List.mem_cons.mp hz with rfl | hz
        · exact ⟨by decide, "java/lang/IndexOutOfBoundsException", S.1.2.2.2.2 _ cl_RL_24, by rw [hk]; exact hNC ("java/lang/IllegalArgumentException", "java/lang/IndexOutOfBoundsException") (by decide)⟩
        exact nomatch hz)), by decide, by decide, S.1.2.2.2.2 _ cl_RL_13, by rw [hk]; exact NW_use nw_c1 (S.2.2.2.2.2.1 _ nw_c1), rfl⟩, fun q9 => ?_⟩
      rw [mix3c]
      refine z_astore (lv' := []) S [] dL_rivals_17 (by decide) rfl ?_
      refine z_iconst (v := 2) S dL_rivals_19 (by decide) ?_
      exact z_wret S rfl (by decide) (by decide) dL_rivals_20
    · exact (wrO_nil hw).elim
  · subst hE
    rw [mix3c]
    cases hw
    refine z_i2l S dL_rivals_8 ?_
    refine z_last (i := 108) (N := 1) (A := some ()) (x0 := ()) S ok_108 (by decide +kernel) (by decide) dL_rivals_9 (fun _ => ?_)
    refine z_memeq (sL3 (g := g)) ?_
    refine z_goto (tgt := 21) S dL_rivals_10 (by decide) ?_
    refine z_iconst (v := 0) S dL_rivals_21 (by decide) ?_
    exact z_wret S rfl (by decide) (by decide) dL_rivals_22
theorem cv_RL_76 : CV RL RX9 76 yX9_send cX9_send 10 0 (some .int) := ⟨TB_of (mt_6 (i := 32) (by decide +kernel)) (by decide +kernel), TB_of (mt_6 (i := 29) (by decide +kernel)) (by decide +kernel), TB_of (mt_6 (i := 30) (by decide +kernel)) (by decide +kernel), TB_of (mt_6 (i := 31) (by decide +kernel)) (by decide +kernel), TB_of (mt_1 (i := 1) (by decide +kernel)) (by decide +kernel), rfl, by decide, by decide, by decide +kernel⟩
def rm_L_send : Room := rmx 7 111 3 18
set_option maxRecDepth 100000 in
set_option maxHeartbeats 4000000 in
theorem K_L_send {X : Cx} {l : Launch} (hl0 : l.stackTraces = false) {Mc Mr N : Mm} {g g2 : Nat → Int64} {rx : (Int32 × Mm) ⊕ (Nat × Mm)} {r : Int32} (he : f_X9_send Mc  = some rx) (hw : wrI [(1, 1)] rx g = some (r, N, g2)) : KW X l yL_send (wzh yL_send cL_send 3 (some .int) [(0, 8, 11, 13)]) rm_L_send [.ref (X.2.2 1), .ref (X.2.2 108)] (mk3 Mc Mr g) r (mk3 N Mr g2) := by
  refine KW_of (own := RL) (lv0 := [(0, .ref (X.2.2 1)), (1, .ref (X.2.2 108))]) (by decide +kernel) rfl (Nat.le_of_ble_eq_true rfl) rfl (fun p e s m args below meth c S T hNC => ?_)
  refine z_aload_n S dL_send_0 rfl 1 rfl ?_
  refine z_iconst (v := 0) S dL_send_1 (by decide) ?_
  refine z_aload_n S dL_send_2 rfl 0 rfl ?_
  refine z_hVI (v := 0) (As := []) (rest := [.int 0, .ref (X.2.2 108)]) S ⟨by decide, by decide⟩ agr3c cv_RL_76 (K_X9_send hl0 he) ok2_1 (by decide) (q := (RX9, TX9, 17)) rfl rfl ⟨rfl, rfl⟩ ⟨Nat.le_of_ble_eq_true rfl, Nat.le_of_ble_eq_true rfl⟩ ⟨Nat.le_of_ble_eq_true rfl, Nat.le_of_ble_eq_true rfl⟩ rfl rfl (Nat.le_of_ble_eq_true rfl) dL_send_3 (fun u hu => ?_) (fun E hE => ?_)
  · subst hu
    replace hw : wrO [(1, 1)] u g = some (r, N, g2) := hw
    rcases wrO_cons hw with ⟨hk, rfl, rfl, rfl⟩ | hw
    · refine ⟨11, ⟨[], ⟨0, 8, 11, 13⟩, [], "java/lang/IllegalArgumentException", T, (fun z hz => nomatch hz), by decide, by decide, S.1.2.2.2.2 _ cl_RL_13, by rw [hk]; exact NW_use nw_c1 (S.2.2.2.2.2.1 _ nw_c1), rfl⟩, fun q9 => ?_⟩
      rw [mix3c]
      refine z_astore_n (lv' := []) S [] dL_send_11 rfl (by decide) rfl ?_
      refine z_iconst (v := 1) S dL_send_12 (by decide) ?_
      exact z_wret S rfl (by decide) (by decide) dL_send_13
    · exact (wrO_nil hw).elim
  · subst hE
    rw [mix3c]
    cases hw
    refine z_i2l S dL_send_6 ?_
    refine z_last (i := 108) (N := 1) (A := some ()) (x0 := ()) S ok_108 (by decide +kernel) (by decide) dL_send_7 (fun _ => ?_)
    refine z_memeq (sL3 (g := g)) ?_
    refine z_goto (tgt := 14) S dL_send_8 (by decide) ?_
    refine z_iconst (v := 0) S dL_send_14 (by decide) ?_
    exact z_wret S rfl (by decide) (by decide) dL_send_15
theorem cv_RL_40 : CV RL RX9 40 yX9_show cX9_show 5 2 (some .boolean) := ⟨TB_of (mt_5 (i := 94) (by decide +kernel)) (by decide +kernel), TB_of (mt_5 (i := 91) (by decide +kernel)) (by decide +kernel), TB_of (mt_5 (i := 92) (by decide +kernel)) (by decide +kernel), TB_of (mt_5 (i := 93) (by decide +kernel)) (by decide +kernel), TB_of (mt_1 (i := 1) (by decide +kernel)) (by decide +kernel), rfl, by decide, by decide, by decide +kernel⟩
def rm_L_show : Room := rmx 8 265 3 18
set_option maxRecDepth 100000 in
set_option maxHeartbeats 4000000 in
theorem K_L_show {X : Cx} {l : Launch} (hl0 : l.stackTraces = false) {Mc Mr N : Mm} {g g2 : Nat → Int64} {a1 : Int32} {a2 : Int32} {rx : (Bool × Mm) ⊕ (Nat × Mm)} {r : Int32} (he : f_X9_show Mc a1 a2 = some rx) (hw : wrZ [(2, 1)] rx g = some (r, N, g2)) : KW X l yL_show (wzh yL_show cL_show 5 (some .int) [(0, 17, 20, 24)]) rm_L_show [.ref (X.2.2 1), .int a1, .int a2, .ref (X.2.2 108)] (mk3 Mc Mr g) r (mk3 N Mr g2) := by
  refine KW_of (own := RL) (lv0 := [(0, .ref (X.2.2 1)), (1, .int a1), (2, .int a2), (3, .ref (X.2.2 108))]) (by decide +kernel) rfl (Nat.le_of_ble_eq_true rfl) rfl (fun p e s m args below meth c S T hNC => ?_)
  refine z_aload_n S dL_show_0 rfl 3 rfl ?_
  refine z_iconst (v := 0) S dL_show_1 (by decide) ?_
  refine z_aload_n S dL_show_2 rfl 0 rfl ?_
  refine z_iload_n S dL_show_3 rfl 1 rfl ?_
  refine z_iload_n S dL_show_4 rfl 2 rfl ?_
  refine z_hVZ (v := 0) (As := [.int a1, .int a2]) (rest := [.int 0, .ref (X.2.2 108)]) S ⟨by decide, by decide⟩ agr3c cv_RL_40 (K_X9_show hl0 he) ok2_1 (by decide) (q := (RX9, TX9, 17)) rfl rfl ⟨rfl, rfl⟩ ⟨Nat.le_of_ble_eq_true rfl, Nat.le_of_ble_eq_true rfl⟩ ⟨Nat.le_of_ble_eq_true rfl, Nat.le_of_ble_eq_true rfl⟩ rfl rfl (Nat.le_of_ble_eq_true rfl) dL_show_5 (fun u hu => ?_) (fun E hE => ?_)
  · subst hu
    replace hw : wrO [(2, 1)] u g = some (r, N, g2) := hw
    rcases wrO_cons hw with ⟨hk, rfl, rfl, rfl⟩ | hw
    · refine ⟨20, ⟨[], ⟨0, 17, 20, 24⟩, [], "java/lang/IndexOutOfBoundsException", T, (fun z hz => nomatch hz), by decide, by decide, S.1.2.2.2.2 _ cl_RL_24, by rw [hk]; exact NW_use nw_c2 (S.2.2.2.2.2.1 _ nw_c2), rfl⟩, fun q9 => ?_⟩
      rw [mix3c]
      refine z_astore (lv' := []) S [] dL_show_20 (by decide) rfl ?_
      refine z_iconst (v := 1) S dL_show_22 (by decide) ?_
      exact z_wret S rfl (by decide) (by decide) dL_show_23
    · exact (wrO_nil hw).elim
  · subst hE
    rw [mix3c]
    obtain ⟨b9, M9⟩ := E
    cases b9
    · cases hw
      refine z_if_eq (tgt := 15) (A := true) (B := false) (x0 := true) S (if_pos rfl) dL_show_8 (by decide) (fun _ => ?_) (fun he => nomatch he)
      refine z_lconst (v := 0) S dL_show_15 (by decide) ?_
      refine z_last (i := 108) (N := 1) (A := some ()) (x0 := ()) S ok_108 (by decide +kernel) (by decide) dL_show_16 (fun _ => ?_)
      refine z_memeq (sL3 (g := g)) ?_
      refine z_goto (tgt := 24) S dL_show_17 (by decide) ?_
      refine z_iconst (v := 0) S dL_show_24 (by decide) ?_
      exact z_wret S rfl (by decide) (by decide) dL_show_25
    · cases hw
      refine z_if_eq (tgt := 15) (A := true) (B := false) (x0 := false) S (if_neg (show ¬ (1 : Int32) = 0 by decide)) dL_show_8 (by decide) (fun he => nomatch he) (fun _ => ?_)
      refine z_lconst (v := 1) S dL_show_11 (by decide) ?_
      refine z_goto (tgt := 16) S dL_show_12 (by decide) ?_
      refine z_last (i := 108) (N := 1) (A := some ()) (x0 := ()) S ok_108 (by decide +kernel) (by decide) dL_show_16 (fun _ => ?_)
      refine z_memeq (sL3 (g := g)) ?_
      refine z_goto (tgt := 24) S dL_show_17 (by decide) ?_
      refine z_iconst (v := 0) S dL_show_24 (by decide) ?_
      exact z_wret S rfl (by decide) (by decide) dL_show_25
theorem cv_RL_98 : CV RL RX9 98 yX9_span cX9_span 7 2 (some .int) := ⟨TB_of (mt_6 (i := 88) (by decide +kernel)) (by decide +kernel), TB_of (mt_6 (i := 85) (by decide +kernel)) (by decide +kernel), TB_of (mt_6 (i := 86) (by decide +kernel)) (by decide +kernel), TB_of (mt_6 (i := 87) (by decide +kernel)) (by decide +kernel), TB_of (mt_1 (i := 1) (by decide +kernel)) (by decide +kernel), rfl, by decide, by decide, by decide +kernel⟩
def rm_L_span : Room := rmx 8 247 3 18
set_option maxRecDepth 100000 in
set_option maxHeartbeats 4000000 in
theorem K_L_span {X : Cx} {l : Launch} (hl0 : l.stackTraces = false) {Mc Mr N : Mm} {g g2 : Nat → Int64} {a1 : Int32} {a2 : Int32} {rx : (Int32 × Mm) ⊕ (Nat × Mm)} {r : Int32} (he : f_X9_span Mc a1 a2 = some rx) (hw : wrI [(1, 1)] rx g = some (r, N, g2)) : KW X l yL_span (wzh yL_span cL_span 5 (some .int) [(0, 10, 13, 13)]) rm_L_span [.ref (X.2.2 1), .int a1, .int a2, .ref (X.2.2 108)] (mk3 Mc Mr g) r (mk3 N Mr g2) := by
  refine KW_of (own := RL) (lv0 := [(0, .ref (X.2.2 1)), (1, .int a1), (2, .int a2), (3, .ref (X.2.2 108))]) (by decide +kernel) rfl (Nat.le_of_ble_eq_true rfl) rfl (fun p e s m args below meth c S T hNC => ?_)
  refine z_aload_n S dL_span_0 rfl 3 rfl ?_
  refine z_iconst (v := 0) S dL_span_1 (by decide) ?_
  refine z_aload_n S dL_span_2 rfl 0 rfl ?_
  refine z_iload_n S dL_span_3 rfl 1 rfl ?_
  refine z_iload_n S dL_span_4 rfl 2 rfl ?_
  refine z_hVI (v := 0) (As := [.int a1, .int a2]) (rest := [.int 0, .ref (X.2.2 108)]) S ⟨by decide, by decide⟩ agr3c cv_RL_98 (K_X9_span hl0 he) ok2_1 (by decide) (q := (RX9, TX9, 17)) rfl rfl ⟨rfl, rfl⟩ ⟨Nat.le_of_ble_eq_true rfl, Nat.le_of_ble_eq_true rfl⟩ ⟨Nat.le_of_ble_eq_true rfl, Nat.le_of_ble_eq_true rfl⟩ rfl rfl (Nat.le_of_ble_eq_true rfl) dL_span_5 (fun u hu => ?_) (fun E hE => ?_)
  · subst hu
    replace hw : wrO [(1, 1)] u g = some (r, N, g2) := hw
    rcases wrO_cons hw with ⟨hk, rfl, rfl, rfl⟩ | hw
    · refine ⟨13, ⟨[], ⟨0, 10, 13, 13⟩, [], "java/lang/IllegalArgumentException", T, (fun z hz => nomatch hz), by decide, by decide, S.1.2.2.2.2 _ cl_RL_13, by rw [hk]; exact NW_use nw_c1 (S.2.2.2.2.2.1 _ nw_c1), rfl⟩, fun q9 => ?_⟩
      rw [mix3c]
      refine z_astore (lv' := []) S [] dL_span_13 (by decide) rfl ?_
      refine z_iconst (v := 1) S dL_span_15 (by decide) ?_
      exact z_wret S rfl (by decide) (by decide) dL_span_16
    · exact (wrO_nil hw).elim
  · subst hE
    rw [mix3c]
    cases hw
    refine z_i2l S dL_span_8 ?_
    refine z_last (i := 108) (N := 1) (A := some ()) (x0 := ()) S ok_108 (by decide +kernel) (by decide) dL_span_9 (fun _ => ?_)
    refine z_memeq (sL3 (g := g)) ?_
    refine z_goto (tgt := 17) S dL_span_10 (by decide) ?_
    refine z_iconst (v := 0) S dL_span_17 (by decide) ?_
    exact z_wret S rfl (by decide) (by decide) dL_span_18
theorem cv_RL_92 : CV RL RX9 92 yX9_steps cX9_steps 2 1 (some .int) := ⟨TB_of (mt_6 (i := 74) (by decide +kernel)) (by decide +kernel), TB_of (mt_6 (i := 71) (by decide +kernel)) (by decide +kernel), TB_of (mt_6 (i := 72) (by decide +kernel)) (by decide +kernel), TB_of (mt_6 (i := 73) (by decide +kernel)) (by decide +kernel), TB_of (mt_1 (i := 1) (by decide +kernel)) (by decide +kernel), rfl, by decide, by decide, by decide +kernel⟩
def rm_L_steps : Room := rmx 8 123 3 18
set_option maxRecDepth 100000 in
set_option maxHeartbeats 4000000 in
theorem K_L_steps {X : Cx} {l : Launch} (hl0 : l.stackTraces = false) {Mc Mr N : Mm} {g g2 : Nat → Int64} {a1 : Int32} {rx : (Int32 × Mm) ⊕ (Nat × Mm)} {r : Int32} (he : f_X9_steps Mc a1 = some rx) (hw : wrI [(2, 1)] rx g = some (r, N, g2)) : KW X l yL_steps (wzh yL_steps cL_steps 4 (some .int) [(0, 9, 12, 24)]) rm_L_steps [.ref (X.2.2 1), .int a1, .ref (X.2.2 108)] (mk3 Mc Mr g) r (mk3 N Mr g2) := by
  refine KW_of (own := RL) (lv0 := [(0, .ref (X.2.2 1)), (1, .int a1), (2, .ref (X.2.2 108))]) (by decide +kernel) rfl (Nat.le_of_ble_eq_true rfl) rfl (fun p e s m args below meth c S T hNC => ?_)
  refine z_aload_n S dL_steps_0 rfl 2 rfl ?_
  refine z_iconst (v := 0) S dL_steps_1 (by decide) ?_
  refine z_aload_n S dL_steps_2 rfl 0 rfl ?_
  refine z_iload_n S dL_steps_3 rfl 1 rfl ?_
  refine z_hVI (v := 0) (As := [.int a1]) (rest := [.int 0, .ref (X.2.2 108)]) S ⟨by decide, by decide⟩ agr3c cv_RL_92 (K_X9_steps hl0 he) ok2_1 (by decide) (q := (RX9, TX9, 17)) rfl rfl ⟨rfl, rfl⟩ ⟨Nat.le_of_ble_eq_true rfl, Nat.le_of_ble_eq_true rfl⟩ ⟨Nat.le_of_ble_eq_true rfl, Nat.le_of_ble_eq_true rfl⟩ rfl rfl (Nat.le_of_ble_eq_true rfl) dL_steps_4 (fun u hu => ?_) (fun E hE => ?_)
  · subst hu
    replace hw : wrO [(2, 1)] u g = some (r, N, g2) := hw
    rcases wrO_cons hw with ⟨hk, rfl, rfl, rfl⟩ | hw
    · refine ⟨12, ⟨[], ⟨0, 9, 12, 24⟩, [], "java/lang/IndexOutOfBoundsException", T, (fun z hz => nomatch hz), by decide, by decide, S.1.2.2.2.2 _ cl_RL_24, by rw [hk]; exact NW_use nw_c2 (S.2.2.2.2.2.1 _ nw_c2), rfl⟩, fun q9 => ?_⟩
      rw [mix3c]
      refine z_astore_n (lv' := []) S [] dL_steps_12 rfl (by decide) rfl ?_
      refine z_iconst (v := 1) S dL_steps_13 (by decide) ?_
      exact z_wret S rfl (by decide) (by decide) dL_steps_14
    · exact (wrO_nil hw).elim
  · subst hE
    rw [mix3c]
    cases hw
    refine z_i2l S dL_steps_7 ?_
    refine z_last (i := 108) (N := 1) (A := some ()) (x0 := ()) S ok_108 (by decide +kernel) (by decide) dL_steps_8 (fun _ => ?_)
    refine z_memeq (sL3 (g := g)) ?_
    refine z_goto (tgt := 15) S dL_steps_9 (by decide) ?_
    refine z_iconst (v := 0) S dL_steps_15 (by decide) ?_
    exact z_wret S rfl (by decide) (by decide) dL_steps_16
theorem cv_RL_20 : CV RL RX9 20 yX9_thing cX9_thing 3 2 (some .int) := ⟨TB_of (mt_4 (i := 230) (by decide +kernel)) (by decide +kernel), TB_of (mt_4 (i := 227) (by decide +kernel)) (by decide +kernel), TB_of (mt_4 (i := 228) (by decide +kernel)) (by decide +kernel), TB_of (mt_4 (i := 229) (by decide +kernel)) (by decide +kernel), TB_of (mt_1 (i := 1) (by decide +kernel)) (by decide +kernel), rfl, by decide, by decide, by decide +kernel⟩
def rm_L_thing : Room := rmx 8 156 3 18
set_option maxRecDepth 100000 in
set_option maxHeartbeats 4000000 in
theorem K_L_thing {X : Cx} {l : Launch} (hl0 : l.stackTraces = false) {Mc Mr N : Mm} {g g2 : Nat → Int64} {a1 : Int32} {a2 : Int32} {rx : (Int32 × Mm) ⊕ (Nat × Mm)} {r : Int32} (he : f_X9_thing Mc a1 a2 = some rx) (hw : wrI [(2, 1), (4, 2)] rx g = some (r, N, g2)) : KW X l yL_thing (wzh yL_thing cL_thing 5 (some .int) [(0, 10, 13, 24), (0, 10, 17, 26)]) rm_L_thing [.ref (X.2.2 1), .int a1, .int a2, .ref (X.2.2 108)] (mk3 Mc Mr g) r (mk3 N Mr g2) := by
  refine KW_of (own := RL) (lv0 := [(0, .ref (X.2.2 1)), (1, .int a1), (2, .int a2), (3, .ref (X.2.2 108))]) (by decide +kernel) rfl (Nat.le_of_ble_eq_true rfl) rfl (fun p e s m args below meth c S T hNC => ?_)
  refine z_aload_n S dL_thing_0 rfl 3 rfl ?_
  refine z_iconst (v := 0) S dL_thing_1 (by decide) ?_
  refine z_aload_n S dL_thing_2 rfl 0 rfl ?_
  refine z_iload_n S dL_thing_3 rfl 1 rfl ?_
  refine z_iload_n S dL_thing_4 rfl 2 rfl ?_
  refine z_hVI (v := 0) (As := [.int a1, .int a2]) (rest := [.int 0, .ref (X.2.2 108)]) S ⟨by decide, by decide⟩ agr3c cv_RL_20 (K_X9_thing hl0 he) ok2_1 (by decide) (q := (RX9, TX9, 17)) rfl rfl ⟨rfl, rfl⟩ ⟨Nat.le_of_ble_eq_true rfl, Nat.le_of_ble_eq_true rfl⟩ ⟨Nat.le_of_ble_eq_true rfl, Nat.le_of_ble_eq_true rfl⟩ rfl rfl (Nat.le_of_ble_eq_true rfl) dL_thing_5 (fun u hu => ?_) (fun E hE => ?_)
  · subst hu
    replace hw : wrO [(2, 1), (4, 2)] u g = some (r, N, g2) := hw
    rcases wrO_cons hw with ⟨hk, rfl, rfl, rfl⟩ | hw
    · refine ⟨13, ⟨[], ⟨0, 10, 13, 24⟩, [⟨0, 10, 17, 26⟩], "java/lang/IndexOutOfBoundsException", T, (fun z hz => nomatch hz), by decide, by decide, S.1.2.2.2.2 _ cl_RL_24, by rw [hk]; exact NW_use nw_c2 (S.2.2.2.2.2.1 _ nw_c2), rfl⟩, fun q9 => ?_⟩
      rw [mix3c]
      refine z_astore (lv' := []) S [] dL_thing_13 (by decide) rfl ?_
      refine z_iconst (v := 1) S dL_thing_15 (by decide) ?_
      exact z_wret S rfl (by decide) (by decide) dL_thing_16
    rcases wrO_cons hw with ⟨hk, rfl, rfl, rfl⟩ | hw
    · refine ⟨17, ⟨[⟨0, 10, 13, 24⟩], ⟨0, 10, 17, 26⟩, [], "java/util/NoSuchElementException", T, (fun z hz => Or.inr (by
        rcases List.mem_cons.mp hz with rfl | hz
        · exact ⟨by decide, "java/lang/IndexOutOfBoundsException", S.1.2.2.2.2 _ cl_RL_24, by rw [hk]; exact hNC ("java/util/NoSuchElementException", "java/lang/IndexOutOfBoundsException") (by decide)⟩
        exact nomatch hz)), by decide, by decide, S.1.2.2.2.2 _ cl_RL_26, by rw [hk]; exact NW_use nw_c4 (S.2.2.2.2.2.1 _ nw_c4), rfl⟩, fun q9 => ?_⟩
      rw [mix3c]
      refine z_astore (lv' := []) S [] dL_thing_17 (by decide) rfl ?_
      refine z_iconst (v := 2) S dL_thing_19 (by decide) ?_
      exact z_wret S rfl (by decide) (by decide) dL_thing_20
    · exact (wrO_nil hw).elim
  · subst hE
    rw [mix3c]
    cases hw
    refine z_i2l S dL_thing_8 ?_
    refine z_last (i := 108) (N := 1) (A := some ()) (x0 := ()) S ok_108 (by decide +kernel) (by decide) dL_thing_9 (fun _ => ?_)
    refine z_memeq (sL3 (g := g)) ?_
    refine z_goto (tgt := 21) S dL_thing_10 (by decide) ?_
    refine z_iconst (v := 0) S dL_thing_21 (by decide) ?_
    exact z_wret S rfl (by decide) (by decide) dL_thing_22
theorem cv_RL_51 : CV RL RX9 51 yX9_trade cX9_trade 3 2 none := ⟨TB_of (mt_5 (i := 118) (by decide +kernel)) (by decide +kernel), TB_of (mt_5 (i := 115) (by decide +kernel)) (by decide +kernel), TB_of (mt_5 (i := 116) (by decide +kernel)) (by decide +kernel), TB_of (mt_5 (i := 117) (by decide +kernel)) (by decide +kernel), TB_of (mt_1 (i := 1) (by decide +kernel)) (by decide +kernel), rfl, by decide, by decide, by decide +kernel⟩
def rm_L_trade : Room := rmx 8 263 3 18
set_option maxRecDepth 100000 in
set_option maxHeartbeats 4000000 in
theorem K_L_trade {X : Cx} {l : Launch} (hl0 : l.stackTraces = false) {Mc Mr N : Mm} {g g2 : Nat → Int64} {a1 : Int32} {a2 : Int32} {rx : Mm ⊕ (Nat × Mm)} {r : Int32} (he : f_X9_trade Mc a1 a2 = some rx) (hw : wrV [(2, 1), (1, 2)] rx g = some (r, N, g2)) : KW X l yL_trade (wzh yL_trade cL_trade 4 (some .int) [(0, 6, 9, 24), (0, 6, 12, 13)]) rm_L_trade [.ref (X.2.2 1), .int a1, .int a2] (mk3 Mc Mr g) r (mk3 N Mr g2) := by
  refine KW_of (own := RL) (lv0 := [(0, .ref (X.2.2 1)), (1, .int a1), (2, .int a2)]) (by decide +kernel) rfl (Nat.le_of_ble_eq_true rfl) rfl (fun p e s m args below meth c S T hNC => ?_)
  refine z_aload_n S dL_trade_0 rfl 0 rfl ?_
  refine z_iload_n S dL_trade_1 rfl 1 rfl ?_
  refine z_iload_n S dL_trade_2 rfl 2 rfl ?_
  refine z_hVV (v := 0) (As := [.int a1, .int a2]) (rest := []) S ⟨by decide, by decide⟩ agr3c cv_RL_51 (K_X9_trade hl0 he) ok2_1 (by decide) (q := (RX9, TX9, 17)) rfl rfl ⟨rfl, rfl⟩ ⟨Nat.le_of_ble_eq_true rfl, Nat.le_of_ble_eq_true rfl⟩ ⟨Nat.le_of_ble_eq_true rfl, Nat.le_of_ble_eq_true rfl⟩ rfl rfl (Nat.le_of_ble_eq_true rfl) dL_trade_3 (fun u hu => ?_) (fun E hE => ?_)
  · subst hu
    replace hw : wrO [(2, 1), (1, 2)] u g = some (r, N, g2) := hw
    rcases wrO_cons hw with ⟨hk, rfl, rfl, rfl⟩ | hw
    · refine ⟨9, ⟨[], ⟨0, 6, 9, 24⟩, [⟨0, 6, 12, 13⟩], "java/lang/IndexOutOfBoundsException", T, (fun z hz => nomatch hz), by decide, by decide, S.1.2.2.2.2 _ cl_RL_24, by rw [hk]; exact NW_use nw_c2 (S.2.2.2.2.2.1 _ nw_c2), rfl⟩, fun q9 => ?_⟩
      rw [mix3c]
      refine z_astore_n (lv' := []) S [] dL_trade_9 rfl (by decide) rfl ?_
      refine z_iconst (v := 1) S dL_trade_10 (by decide) ?_
      exact z_wret S rfl (by decide) (by decide) dL_trade_11
    rcases wrO_cons hw with ⟨hk, rfl, rfl, rfl⟩ | hw
    · refine ⟨12, ⟨[⟨0, 6, 9, 24⟩], ⟨0, 6, 12, 13⟩, [], "java/lang/IllegalArgumentException", T, (fun z hz => Or.inr (by
        rcases List.mem_cons.mp hz with rfl | hz
        · exact ⟨by decide, "java/lang/IndexOutOfBoundsException", S.1.2.2.2.2 _ cl_RL_24, by rw [hk]; exact hNC ("java/lang/IllegalArgumentException", "java/lang/IndexOutOfBoundsException") (by decide)⟩
        exact nomatch hz)), by decide, by decide, S.1.2.2.2.2 _ cl_RL_13, by rw [hk]; exact NW_use nw_c1 (S.2.2.2.2.2.1 _ nw_c1), rfl⟩, fun q9 => ?_⟩
      rw [mix3c]
      refine z_astore_n (lv' := []) S [] dL_trade_12 rfl (by decide) rfl ?_
      refine z_iconst (v := 2) S dL_trade_13 (by decide) ?_
      exact z_wret S rfl (by decide) (by decide) dL_trade_14
    · exact (wrO_nil hw).elim
  · subst hE
    rw [mix3c]
    cases hw
    refine z_goto (tgt := 15) S dL_trade_6 (by decide) ?_
    refine z_iconst (v := 0) S dL_trade_15 (by decide) ?_
    exact z_wret S rfl (by decide) (by decide) dL_trade_16
theorem cv_RL_95 : CV RL RX9 95 yX9_trial cX9_trial 2 1 (some .int) := ⟨TB_of (mt_6 (i := 81) (by decide +kernel)) (by decide +kernel), TB_of (mt_6 (i := 78) (by decide +kernel)) (by decide +kernel), TB_of (mt_6 (i := 79) (by decide +kernel)) (by decide +kernel), TB_of (mt_6 (i := 80) (by decide +kernel)) (by decide +kernel), TB_of (mt_1 (i := 1) (by decide +kernel)) (by decide +kernel), rfl, by decide, by decide, by decide +kernel⟩
def rm_L_trial : Room := rmx 8 242 3 18
set_option maxRecDepth 100000 in
set_option maxHeartbeats 4000000 in
theorem K_L_trial {X : Cx} {l : Launch} (hl0 : l.stackTraces = false) {Mc Mr N : Mm} {g g2 : Nat → Int64} {a1 : Int32} {rx : (Int32 × Mm) ⊕ (Nat × Mm)} {r : Int32} (he : f_X9_trial Mc a1 = some rx) (hw : wrI [(1, 1)] rx g = some (r, N, g2)) : KW X l yL_trial (wzh yL_trial cL_trial 4 (some .int) [(0, 9, 12, 13)]) rm_L_trial [.ref (X.2.2 1), .int a1, .ref (X.2.2 108)] (mk3 Mc Mr g) r (mk3 N Mr g2) := by
  refine KW_of (own := RL) (lv0 := [(0, .ref (X.2.2 1)), (1, .int a1), (2, .ref (X.2.2 108))]) (by decide +kernel) rfl (Nat.le_of_ble_eq_true rfl) rfl (fun p e s m args below meth c S T hNC => ?_)
  refine z_aload_n S dL_trial_0 rfl 2 rfl ?_
  refine z_iconst (v := 0) S dL_trial_1 (by decide) ?_
  refine z_aload_n S dL_trial_2 rfl 0 rfl ?_
  refine z_iload_n S dL_trial_3 rfl 1 rfl ?_
  refine z_hVI (v := 0) (As := [.int a1]) (rest := [.int 0, .ref (X.2.2 108)]) S ⟨by decide, by decide⟩ agr3c cv_RL_95 (K_X9_trial hl0 he) ok2_1 (by decide) (q := (RX9, TX9, 17)) rfl rfl ⟨rfl, rfl⟩ ⟨Nat.le_of_ble_eq_true rfl, Nat.le_of_ble_eq_true rfl⟩ ⟨Nat.le_of_ble_eq_true rfl, Nat.le_of_ble_eq_true rfl⟩ rfl rfl (Nat.le_of_ble_eq_true rfl) dL_trial_4 (fun u hu => ?_) (fun E hE => ?_)
  · subst hu
    replace hw : wrO [(1, 1)] u g = some (r, N, g2) := hw
    rcases wrO_cons hw with ⟨hk, rfl, rfl, rfl⟩ | hw
    · refine ⟨12, ⟨[], ⟨0, 9, 12, 13⟩, [], "java/lang/IllegalArgumentException", T, (fun z hz => nomatch hz), by decide, by decide, S.1.2.2.2.2 _ cl_RL_13, by rw [hk]; exact NW_use nw_c1 (S.2.2.2.2.2.1 _ nw_c1), rfl⟩, fun q9 => ?_⟩
      rw [mix3c]
      refine z_astore_n (lv' := []) S [] dL_trial_12 rfl (by decide) rfl ?_
      refine z_iconst (v := 1) S dL_trial_13 (by decide) ?_
      exact z_wret S rfl (by decide) (by decide) dL_trial_14
    · exact (wrO_nil hw).elim
  · subst hE
    rw [mix3c]
    cases hw
    refine z_i2l S dL_trial_7 ?_
    refine z_last (i := 108) (N := 1) (A := some ()) (x0 := ()) S ok_108 (by decide +kernel) (by decide) dL_trial_8 (fun _ => ?_)
    refine z_memeq (sL3 (g := g)) ?_
    refine z_goto (tgt := 15) S dL_trial_9 (by decide) ?_
    refine z_iconst (v := 0) S dL_trial_15 (by decide) ?_
    exact z_wret S rfl (by decide) (by decide) dL_trial_16
theorem cv_RL_28 : CV RL RX9 28 yX9_visitor cX9_visitor 4 2 (some .int) := ⟨TB_of (mt_5 (i := 38) (by decide +kernel)) (by decide +kernel), TB_of (mt_5 (i := 35) (by decide +kernel)) (by decide +kernel), TB_of (mt_5 (i := 36) (by decide +kernel)) (by decide +kernel), TB_of (mt_5 (i := 37) (by decide +kernel)) (by decide +kernel), TB_of (mt_1 (i := 1) (by decide +kernel)) (by decide +kernel), rfl, by decide, by decide, by decide +kernel⟩
def rm_L_visitor : Room := rmx 8 157 3 18
set_option maxRecDepth 100000 in
set_option maxHeartbeats 4000000 in
theorem K_L_visitor {X : Cx} {l : Launch} (hl0 : l.stackTraces = false) {Mc Mr N : Mm} {g g2 : Nat → Int64} {a1 : Int32} {a2 : Int32} {rx : (Int32 × Mm) ⊕ (Nat × Mm)} {r : Int32} (he : f_X9_visitor Mc a1 a2 = some rx) (hw : wrI [(2, 1), (4, 2)] rx g = some (r, N, g2)) : KW X l yL_visitor (wzh yL_visitor cL_visitor 5 (some .int) [(0, 10, 13, 24), (0, 10, 17, 26)]) rm_L_visitor [.ref (X.2.2 1), .int a1, .int a2, .ref (X.2.2 108)] (mk3 Mc Mr g) r (mk3 N Mr g2) := by
  refine KW_of (own := RL) (lv0 := [(0, .ref (X.2.2 1)), (1, .int a1), (2, .int a2), (3, .ref (X.2.2 108))]) (by decide +kernel) rfl (Nat.le_of_ble_eq_true rfl) rfl (fun p e s m args below meth c S T hNC => ?_)
  refine z_aload_n S dL_visitor_0 rfl 3 rfl ?_
  refine z_iconst (v := 0) S dL_visitor_1 (by decide) ?_
  refine z_aload_n S dL_visitor_2 rfl 0 rfl ?_
  refine z_iload_n S dL_visitor_3 rfl 1 rfl ?_
  refine z_iload_n S dL_visitor_4 rfl 2 rfl ?_
  refine z_hVI (v := 0) (As := [.int a1, .int a2]) (rest := [.int 0, .ref (X.2.2 108)]) S ⟨by decide, by decide⟩ agr3c cv_RL_28 (K_X9_visitor hl0 he) ok2_1 (by decide) (q := (RX9, TX9, 17)) rfl rfl ⟨rfl, rfl⟩ ⟨Nat.le_of_ble_eq_true rfl, Nat.le_of_ble_eq_true rfl⟩ ⟨Nat.le_of_ble_eq_true rfl, Nat.le_of_ble_eq_true rfl⟩ rfl rfl (Nat.le_of_ble_eq_true rfl) dL_visitor_5 (fun u hu => ?_) (fun E hE => ?_)
  · subst hu
    replace hw : wrO [(2, 1), (4, 2)] u g = some (r, N, g2) := hw
    rcases wrO_cons hw with ⟨hk, rfl, rfl, rfl⟩ | hw
    · refine ⟨13, ⟨[], ⟨0, 10, 13, 24⟩, [⟨0, 10, 17, 26⟩], "java/lang/IndexOutOfBoundsException", T, (fun z hz => nomatch hz), by decide, by decide, S.1.2.2.2.2 _ cl_RL_24, by rw [hk]; exact NW_use nw_c2 (S.2.2.2.2.2.1 _ nw_c2), rfl⟩, fun q9 => ?_⟩
      rw [mix3c]
      refine z_astore (lv' := []) S [] dL_visitor_13 (by decide) rfl ?_
      refine z_iconst (v := 1) S dL_visitor_15 (by decide) ?_
      exact z_wret S rfl (by decide) (by decide) dL_visitor_16
    rcases wrO_cons hw with ⟨hk, rfl, rfl, rfl⟩ | hw
    · refine ⟨17, ⟨[⟨0, 10, 13, 24⟩], ⟨0, 10, 17, 26⟩, [], "java/util/NoSuchElementException", T, (fun z hz => Or.inr (by
        rcases List.mem_cons.mp hz with rfl | hz
        · exact ⟨by decide, "java/lang/IndexOutOfBoundsException", S.1.2.2.2.2 _ cl_RL_24, by rw [hk]; exact hNC ("java/util/NoSuchElementException", "java/lang/IndexOutOfBoundsException") (by decide)⟩
        exact nomatch hz)), by decide, by decide, S.1.2.2.2.2 _ cl_RL_26, by rw [hk]; exact NW_use nw_c4 (S.2.2.2.2.2.1 _ nw_c4), rfl⟩, fun q9 => ?_⟩
      rw [mix3c]
      refine z_astore (lv' := []) S [] dL_visitor_17 (by decide) rfl ?_
      refine z_iconst (v := 2) S dL_visitor_19 (by decide) ?_
      exact z_wret S rfl (by decide) (by decide) dL_visitor_20
    · exact (wrO_nil hw).elim
  · subst hE
    rw [mix3c]
    cases hw
    refine z_i2l S dL_visitor_8 ?_
    refine z_last (i := 108) (N := 1) (A := some ()) (x0 := ()) S ok_108 (by decide +kernel) (by decide) dL_visitor_9 (fun _ => ?_)
    refine z_memeq (sL3 (g := g)) ?_
    refine z_goto (tgt := 21) S dL_visitor_10 (by decide) ?_
    refine z_iconst (v := 0) S dL_visitor_21 (by decide) ?_
    exact z_wret S rfl (by decide) (by decide) dL_visitor_22
theorem cv_RL_72 : CV RL RX9 72 yX9_wants cX9_wants 5 1 (some .int) := ⟨TB_of (mt_6 (i := 2) (by decide +kernel)) (by decide +kernel), TB_of (mt_5 (i := 239) (by decide +kernel)) (by decide +kernel), TB_of (mt_6 (i := 0) (by decide +kernel)) (by decide +kernel), TB_of (mt_6 (i := 1) (by decide +kernel)) (by decide +kernel), TB_of (mt_1 (i := 1) (by decide +kernel)) (by decide +kernel), rfl, by decide, by decide, by decide +kernel⟩
def rm_L_wants : Room := rmx 7 106 3 18
set_option maxRecDepth 100000 in
set_option maxHeartbeats 4000000 in
theorem K_L_wants {X : Cx} {l : Launch} (hl0 : l.stackTraces = false) {Mc Mr N : Mm} {g g2 : Nat → Int64} {a1 : Int32} {rx : (Int32 × Mm) ⊕ (Nat × Mm)} {r : Int32} (he : f_X9_wants Mc a1 = some rx) (hw : wrI [(1, 1)] rx g = some (r, N, g2)) : KW X l yL_wants (wzh yL_wants cL_wants 4 (some .int) [(0, 9, 12, 13)]) rm_L_wants [.ref (X.2.2 1), .int a1, .ref (X.2.2 108)] (mk3 Mc Mr g) r (mk3 N Mr g2) := by
  refine KW_of (own := RL) (lv0 := [(0, .ref (X.2.2 1)), (1, .int a1), (2, .ref (X.2.2 108))]) (by decide +kernel) rfl (Nat.le_of_ble_eq_true rfl) rfl (fun p e s m args below meth c S T hNC => ?_)
  refine z_aload_n S dL_wants_0 rfl 2 rfl ?_
  refine z_iconst (v := 0) S dL_wants_1 (by decide) ?_
  refine z_aload_n S dL_wants_2 rfl 0 rfl ?_
  refine z_iload_n S dL_wants_3 rfl 1 rfl ?_
  refine z_hVI (v := 0) (As := [.int a1]) (rest := [.int 0, .ref (X.2.2 108)]) S ⟨by decide, by decide⟩ agr3c cv_RL_72 (K_X9_wants hl0 he) ok2_1 (by decide) (q := (RX9, TX9, 17)) rfl rfl ⟨rfl, rfl⟩ ⟨Nat.le_of_ble_eq_true rfl, Nat.le_of_ble_eq_true rfl⟩ ⟨Nat.le_of_ble_eq_true rfl, Nat.le_of_ble_eq_true rfl⟩ rfl rfl (Nat.le_of_ble_eq_true rfl) dL_wants_4 (fun u hu => ?_) (fun E hE => ?_)
  · subst hu
    replace hw : wrO [(1, 1)] u g = some (r, N, g2) := hw
    rcases wrO_cons hw with ⟨hk, rfl, rfl, rfl⟩ | hw
    · refine ⟨12, ⟨[], ⟨0, 9, 12, 13⟩, [], "java/lang/IllegalArgumentException", T, (fun z hz => nomatch hz), by decide, by decide, S.1.2.2.2.2 _ cl_RL_13, by rw [hk]; exact NW_use nw_c1 (S.2.2.2.2.2.1 _ nw_c1), rfl⟩, fun q9 => ?_⟩
      rw [mix3c]
      refine z_astore_n (lv' := []) S [] dL_wants_12 rfl (by decide) rfl ?_
      refine z_iconst (v := 1) S dL_wants_13 (by decide) ?_
      exact z_wret S rfl (by decide) (by decide) dL_wants_14
    · exact (wrO_nil hw).elim
  · subst hE
    rw [mix3c]
    cases hw
    refine z_i2l S dL_wants_7 ?_
    refine z_last (i := 108) (N := 1) (A := some ()) (x0 := ()) S ok_108 (by decide +kernel) (by decide) dL_wants_8 (fun _ => ?_)
    refine z_memeq (sL3 (g := g)) ?_
    refine z_goto (tgt := 15) S dL_wants_9 (by decide) ?_
    refine z_iconst (v := 0) S dL_wants_15 (by decide) ?_
    exact z_wret S rfl (by decide) (by decide) dL_wants_16
