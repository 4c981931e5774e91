set_option maxRecDepth 100000 in
set_option maxHeartbeats 4000000 in
theorem K_X4_drawsAway {X : Cx} {l : Launch} {M : Mm} {a0 : Nat} {a1 : Int32} {r : Bool} {N : Mm} (h_a0 : OK 0 a0 4) (he : f_X4_drawsAway M a0 a1 = (r, N)) : KI X 0 l yX4_drawsAway (wz yX4_drawsAway cX4_drawsAway 2 (some .boolean)) rm_X4_drawsAway [.ref (X.2.2 a0), .int a1] M (bI r) N := by
  intro sz
  refine K_of (Qc := (fun sz => QI X 0 (bI r) N sz)) (own := RX4) (lv0 := [(0, .ref (X.2.2 a0)), (1, .int a1)]) (by decide +kernel) rfl (Nat.le_of_ble_eq_true rfl) rfl (fun p e s m args below meth c S => ?_) sz
  · unfold f_X4_drawsAway at he
    refine z_aload_n S dX4_drawsAway_0 rfl 0 rfl ?_
    refine z_aload_n S dX4_drawsAway_1 rfl 0 rfl ?_
    refine z_getI S fo_RX4_25 rfl h_a0 dX4_drawsAway_2 ?_
    refine z_ldc (v := 1103515245) S kc_RX4_71 dX4_drawsAway_5 ?_
    refine z_imul S dX4_drawsAway_7 ?_
    refine z_sipush (v := 12345) S dX4_drawsAway_8 (by decide) ?_
    refine z_iadd S dX4_drawsAway_11 ?_
    refine z_putI S fo_RX4_25p rfl h_a0 rfl rfl dX4_drawsAway_12 ?_
    refine z_aload_n S dX4_drawsAway_15 rfl 0 rfl ?_
    refine z_getI S fo_RX4_25 rfl h_a0 dX4_drawsAway_16 ?_
    refine z_bipush (v := 16) S dX4_drawsAway_19 (by decide) ?_
    refine z_iushr S dX4_drawsAway_21 ?_
    refine z_sipush (v := 32767) S dX4_drawsAway_22 (by decide) ?_
    refine z_iand S dX4_drawsAway_25 ?_
    refine z_bipush (v := 100) S dX4_drawsAway_26 (by decide) ?_
    refine z_irem S (by decide) dX4_drawsAway_28 ?_
    refine z_aload_n S dX4_drawsAway_29 rfl 0 rfl ?_
    refine z_iload_n S dX4_drawsAway_30 rfl 1 rfl ?_
    refine z_iconst (v := 3) S dX4_drawsAway_31 (by decide) ?_
    refine z_cVI (As := [.int a1, .int 3]) S cv_RX4_65 (K_X4_ofVisitor h_a0 rfl) h_a0 (by decide) (q := (RX4, TX4, 10)) rfl rfl ⟨rfl, rfl⟩ ⟨Nat.le_of_ble_eq_true rfl, Nat.le_of_ble_eq_true rfl⟩ ⟨Nat.le_refl _, Nat.le_refl _⟩ rfl rfl (Nat.le_of_ble_eq_true rfl) dX4_drawsAway_32 ?_
    refine z_icmp_ge (tgt := 42) S he dX4_drawsAway_35 (by decide) (fun he => ?_) (fun he => ?_)
    · refine z_iconst (v := 0) S dX4_drawsAway_42 (by decide) ?_
      exact z_zret0 S (Prod.mk.inj (he)) dX4_drawsAway_43
    · refine z_iconst (v := 1) S dX4_drawsAway_38 (by decide) ?_
      refine z_goto (tgt := 43) S dX4_drawsAway_39 (by decide) ?_
      exact z_zret1 S (Prod.mk.inj (he)) dX4_drawsAway_43
set_option maxRecDepth 100000 in
set_option maxHeartbeats 4000000 in
theorem K_X4_logRows {X : Cx} {l : Launch} {M : Mm} {a0 : Nat} {r : Int32} (h_a0 : OK 0 a0 4) (he : f_X4_logRows M a0 = r) : KI X 0 l yX4_logRows (wz yX4_logRows cX4_logRows 1 (some .int)) rm_X4_logRows [.ref (X.2.2 a0)] M r M := by
  intro sz
  refine K_of (Qc := (fun sz => QI X 0 r M sz)) (own := RX4) (lv0 := [(0, .ref (X.2.2 a0))]) (by decide +kernel) rfl (Nat.le_of_ble_eq_true rfl) rfl (fun p e s m args below meth c S => ?_) sz
  · unfold f_X4_logRows at he
    refine z_aload_n S dX4_logRows_0 rfl 0 rfl ?_
    refine z_getI S fo_RX4_46 rfl h_a0 dX4_logRows_1 ?_
    refine z_bipush (v := 60) S dX4_logRows_4 (by decide) ?_
    refine z_mmin S cm_RX4_76 (Nat.le_of_ble_eq_true rfl) (Nat.le_of_ble_eq_true rfl) ⟨Nat.le_refl _, Nat.le_refl _⟩ dX4_logRows_6 ?_
    exact z_iret S (⟨he, rfl⟩) dX4_logRows_9
set_option maxRecDepth 100000 in
set_option maxHeartbeats 4000000 in
theorem K_X4_logged {X : Cx} {l : Launch} {M : Mm} {a0 : Nat} {a1 : Int32} {a2 : Int32} {r : Int32} (h_a0 : OK 0 a0 4) (he : f_X4_logged M a0 a1 a2 = r) : KI X 0 l yX4_logged (wz yX4_logged cX4_logged 3 (some .int)) rm_X4_logged [.ref (X.2.2 a0), .int a1, .int a2] M r M := by
  intro sz
  refine K_of (Qc := (fun sz => QI X 0 r M sz)) (own := RX4) (lv0 := [(0, .ref (X.2.2 a0)), (1, .int a1), (2, .int a2)]) (by decide +kernel) rfl (Nat.le_of_ble_eq_true rfl) rfl (fun p e s m args below meth c S => ?_) sz
  · unfold f_X4_logged at he
    refine z_aload_n S dX4_logged_0 rfl 0 rfl ?_
    refine z_getF (j := (a0 + 3)) S fo_RX4_18 3 rfl rfl h_a0 dX4_logged_1 ?_
    refine z_aload_n S dX4_logged_4 rfl 0 rfl ?_
    refine z_getI S fo_RX4_46 rfl h_a0 dX4_logged_5 ?_
    refine z_iconst (v := 1) S dX4_logged_8 (by decide) ?_
    refine z_isub S dX4_logged_9 ?_
    refine z_iload_n S dX4_logged_10 rfl 1 rfl ?_
    refine z_isub S dX4_logged_11 ?_
    refine z_bipush (v := 60) S dX4_logged_12 (by decide) ?_
    refine z_irem S (by decide) dX4_logged_14 ?_
    refine z_iconst (v := 5) S dX4_logged_15 (by decide) ?_
    refine z_imul S dX4_logged_16 ?_
    refine z_iload_n S dX4_logged_17 rfl 2 rfl ?_
    refine z_iadd S dX4_logged_18 ?_
    refine z_cNI (As := [.ref (X.2.2 (a0 + 3)), .int ((((((gI M a0 9) - 1) - a1) - (((gI M a0 9) - 1) - a1) / 60 * 60) * 5) + a2)]) S cn_RX4_49 (Kt_X9_at (okf4_3 h_a0).1 rfl) ⟨rfl, rfl⟩ ⟨Nat.le_of_ble_eq_true rfl, Nat.le_of_ble_eq_true rfl⟩ ⟨Nat.le_refl _, Nat.le_refl _⟩ rfl rfl (Nat.le_of_ble_eq_true rfl) dX4_logged_19 ?_
    exact z_iret S (⟨he, rfl⟩) dX4_logged_22
set_option maxRecDepth 100000 in
set_option maxHeartbeats 4000000 in
theorem K_X4_stepOf {X : Cx} {l : Launch} {M : Mm} {a0 : Nat} {a1 : Int32} {r : Int32} (h_a0 : OK 0 a0 4) (he : f_X4_stepOf M a0 a1 = some r) : KI X 0 l yX4_stepOf (wz yX4_stepOf cX4_stepOf 2 (some .int)) rm_X4_stepOf [.ref (X.2.2 a0), .int a1] M r M := by
  intro sz
  refine K_of (Qc := (fun sz => QI X 0 r M sz)) (own := RX4) (lv0 := [(0, .ref (X.2.2 a0)), (1, .int a1)]) (by decide +kernel) rfl (Nat.le_of_ble_eq_true rfl) rfl (fun p e s m args below meth c S => ?_) sz
  · unfold f_X4_stepOf at he
    refine z_aload_n S dX4_stepOf_0 rfl 0 rfl ?_
    refine z_getI S fo_RX4_21 rfl h_a0 dX4_stepOf_1 ?_
    refine z_if_le (tgt := 16) S he dX4_stepOf_4 (by decide) (fun he => ?_) (fun he => ?_)
    · refine z_iconst (v := 0) S dX4_stepOf_16 (by decide) ?_
      exact z_iret S (⟨Option.some.inj he, rfl⟩) dX4_stepOf_17
    · refine z_iload_n S dX4_stepOf_7 rfl 1 rfl ?_
      refine z_aload_n S dX4_stepOf_8 rfl 0 rfl ?_
      refine z_getI S fo_RX4_21 rfl h_a0 dX4_stepOf_9 ?_
      obtain ⟨hy9, he⟩ := grd he
      refine z_idiv S hy9 dX4_stepOf_12 ?_
      refine z_goto (tgt := 17) S dX4_stepOf_13 (by decide) ?_
      exact z_iret S (⟨Option.some.inj he, rfl⟩) dX4_stepOf_17
theorem Kt_X4_stepOf {X : Cx} {l : Launch} {M : Mm} {a0 : Nat} {a1 : Int32} {r : Int32} (h_a0 : OK 0 a0 4) (he : t_X4_stepOf M a0 a1 = r) : KI X 0 l yX4_stepOf (wz yX4_stepOf cX4_stepOf 2 (some .int)) rm_X4_stepOf [.ref (X.2.2 a0), .int a1] M r M := K_X4_stepOf h_a0 (by rw [te_X4_stepOf, he])
set_option maxRecDepth 100000 in
set_option maxHeartbeats 4000000 in
theorem K_X4_note {X : Cx} {l : Launch} {M : Mm} {a0 : Nat} {a1 : Int32} {a2 : Int32} {a3 : Int32} {N : Mm} (h_a0 : OK 0 a0 4) (he : f_X4_note M a0 a1 a2 a3 = some N) : KV X 0 l yX4_note (wz yX4_note cX4_note 5 none) rm_X4_note [.ref (X.2.2 a0), .int a1, .int a2, .int a3] M N := by
  intro sz
  refine K_of (Qc := (fun sz => QV X 0 N sz)) (own := RX4) (lv0 := [(0, .ref (X.2.2 a0)), (1, .int a1), (2, .int a2), (3, .int a3)]) (by decide +kernel) rfl (Nat.le_of_ble_eq_true rfl) rfl (fun p e s m args below meth c S => ?_) sz
  · unfold f_X4_note at he
    refine z_aload_n S dX4_note_0 rfl 0 rfl ?_
    refine z_getI S fo_RX4_46 rfl h_a0 dX4_note_1 ?_
    refine z_bipush (v := 60) S dX4_note_4 (by decide) ?_
    refine z_irem S (by decide) dX4_note_6 ?_
    refine z_iconst (v := 5) S dX4_note_7 (by decide) ?_
    refine z_imul S dX4_note_8 ?_
    obtain ⟨x1, ex1, he⟩ := bnd he
    rw [Option.some.inj ex1]
    refine z_istore (lv' := [(0, .ref (X.2.2 a0)), (1, .int a1), (2, .int a2), (3, .int a3), (4, .int x1)]) S [1, 2, 3, 4, 0] dX4_note_9 (by decide) rfl ?_
    refine z_aload_n S dX4_note_11 rfl 0 rfl ?_
    refine z_getF (j := (a0 + 3)) S fo_RX4_18 3 rfl rfl h_a0 dX4_note_12 ?_
    refine z_iload S dX4_note_15 4 rfl ?_
    refine z_aload_n S dX4_note_17 rfl 0 rfl ?_
    refine z_getI S fo_RX4_43 rfl h_a0 dX4_note_18 ?_
    obtain ⟨M2, h9, he⟩ := bnd he
    refine z_cNV (As := [.ref (X.2.2 (a0 + 3)), .int x1, .int (gI M a0 7)]) S cn_RX4_53 (Kt_X9_put (okf4_3 h_a0).1 (Option.some.inj h9)) ⟨rfl, rfl⟩ ⟨Nat.le_of_ble_eq_true rfl, Nat.le_of_ble_eq_true rfl⟩ ⟨Nat.le_refl _, Nat.le_refl _⟩ rfl rfl (Nat.le_of_ble_eq_true rfl) dX4_note_21 ?_
    refine z_aload_n S dX4_note_24 rfl 0 rfl ?_
    refine z_getF (j := (a0 + 3)) S fo_RX4_18 3 rfl rfl h_a0 dX4_note_25 ?_
    refine z_iload S dX4_note_28 4 rfl ?_
    refine z_iconst (v := 1) S dX4_note_30 (by decide) ?_
    refine z_iadd S dX4_note_31 ?_
    refine z_iload_n S dX4_note_32 rfl 1 rfl ?_
    obtain ⟨M3, h9, he⟩ := bnd he
    refine z_cNV (As := [.ref (X.2.2 (a0 + 3)), .int (x1 + 1), .int a1]) S cn_RX4_53 (Kt_X9_put (okf4_3 h_a0).1 (Option.some.inj h9)) ⟨rfl, rfl⟩ ⟨Nat.le_of_ble_eq_true rfl, Nat.le_of_ble_eq_true rfl⟩ ⟨Nat.le_refl _, Nat.le_refl _⟩ rfl rfl (Nat.le_of_ble_eq_true rfl) dX4_note_33 ?_
    refine z_aload_n S dX4_note_36 rfl 0 rfl ?_
    refine z_getF (j := (a0 + 3)) S fo_RX4_18 3 rfl rfl h_a0 dX4_note_37 ?_
    refine z_iload S dX4_note_40 4 rfl ?_
    refine z_iconst (v := 2) S dX4_note_42 (by decide) ?_
    refine z_iadd S dX4_note_43 ?_
    refine z_iload_n S dX4_note_44 rfl 2 rfl ?_
    obtain ⟨M4, h9, he⟩ := bnd he
    refine z_cNV (As := [.ref (X.2.2 (a0 + 3)), .int (x1 + 2), .int a2]) S cn_RX4_53 (Kt_X9_put (okf4_3 h_a0).1 (Option.some.inj h9)) ⟨rfl, rfl⟩ ⟨Nat.le_of_ble_eq_true rfl, Nat.le_of_ble_eq_true rfl⟩ ⟨Nat.le_refl _, Nat.le_refl _⟩ rfl rfl (Nat.le_of_ble_eq_true rfl) dX4_note_45 ?_
    refine z_aload_n S dX4_note_48 rfl 0 rfl ?_
    refine z_getF (j := (a0 + 3)) S fo_RX4_18 3 rfl rfl h_a0 dX4_note_49 ?_
    refine z_iload S dX4_note_52 4 rfl ?_
    refine z_iconst (v := 3) S dX4_note_54 (by decide) ?_
    refine z_iadd S dX4_note_55 ?_
    refine z_iload_n S dX4_note_56 rfl 3 rfl ?_
    obtain ⟨M5, h9, he⟩ := bnd he
    refine z_cNV (As := [.ref (X.2.2 (a0 + 3)), .int (x1 + 3), .int a3]) S cn_RX4_53 (Kt_X9_put (okf4_3 h_a0).1 (Option.some.inj h9)) ⟨rfl, rfl⟩ ⟨Nat.le_of_ble_eq_true rfl, Nat.le_of_ble_eq_true rfl⟩ ⟨Nat.le_refl _, Nat.le_refl _⟩ rfl rfl (Nat.le_of_ble_eq_true rfl) dX4_note_57 ?_
    refine z_aload_n S dX4_note_60 rfl 0 rfl ?_
    refine z_getF (j := (a0 + 3)) S fo_RX4_18 3 rfl rfl h_a0 dX4_note_61 ?_
    refine z_iload S dX4_note_64 4 rfl ?_
    refine z_iconst (v := 4) S dX4_note_66 (by decide) ?_
    refine z_iadd S dX4_note_67 ?_
    refine z_aload_n S dX4_note_68 rfl 0 rfl ?_
    refine z_aload_n S dX4_note_69 rfl 0 rfl ?_
    refine z_iload_n S dX4_note_70 rfl 2 rfl ?_
    refine z_iconst (v := 0) S dX4_note_71 (by decide) ?_
    refine z_cVI (As := [.int a2, .int 0]) S cv_RX4_57 (K_X4_ofThing h_a0 rfl) h_a0 (by decide) (q := (RX4, TX4, 10)) rfl rfl ⟨rfl, rfl⟩ ⟨Nat.le_of_ble_eq_true rfl, Nat.le_of_ble_eq_true rfl⟩ ⟨Nat.le_refl _, Nat.le_refl _⟩ rfl rfl (Nat.le_of_ble_eq_true rfl) dX4_note_72 ?_
    refine z_cVI (As := [.int (f_X4_ofThing M5 a0 a2 0)]) S cv_RX4_72 (Kt_X4_stepOf h_a0 rfl) h_a0 (by decide) (q := (RX4, TX4, 10)) rfl rfl ⟨rfl, rfl⟩ ⟨Nat.le_of_ble_eq_true rfl, Nat.le_of_ble_eq_true rfl⟩ ⟨Nat.le_refl _, Nat.le_refl _⟩ rfl rfl (Nat.le_of_ble_eq_true rfl) dX4_note_75 ?_
    obtain ⟨M6, h9, he⟩ := bnd he
    refine z_cNV (As := [.ref (X.2.2 (a0 + 3)), .int (x1 + 4), .int (t_X4_stepOf M5 a0 (f_X4_ofThing M5 a0 a2 0))]) S cn_RX4_53 (Kt_X9_put (okf4_3 h_a0).1 (Option.some.inj h9)) ⟨rfl, rfl⟩ ⟨Nat.le_of_ble_eq_true rfl, Nat.le_of_ble_eq_true rfl⟩ ⟨Nat.le_refl _, Nat.le_refl _⟩ rfl rfl (Nat.le_of_ble_eq_true rfl) dX4_note_78 ?_
    refine z_aload_n S dX4_note_81 rfl 0 rfl ?_
    refine z_dup S rfl dX4_note_82 ?_
    refine z_getI S fo_RX4_46 rfl h_a0 dX4_note_83 ?_
    refine z_iconst (v := 1) S dX4_note_86 (by decide) ?_
    refine z_iadd S dX4_note_87 ?_
    refine z_putIb S fo_RX4_46p rfl h_a0 rfl rfl he dX4_note_88 (fun M7 he => ?_)
    exact z_vret S (Option.some.inj he) dX4_note_91
set_option maxRecDepth 100000 in
set_option maxHeartbeats 4000000 in
theorem K_X4_rings {X : Cx} {l : Launch} {M : Mm} {a0 : Nat} {a1 : Int32} {a2 : Int32} {r : Bool} (h_a0 : OK 0 a0 4) (he : f_X4_rings M a0 a1 a2 = r) : KI X 0 l yX4_rings (wz yX4_rings cX4_rings 3 (some .boolean)) rm_X4_rings [.ref (X.2.2 a0), .int a1, .int a2] M (bI r) M := by
  intro sz
  refine K_of (Qc := (fun sz => QI X 0 (bI r) M sz)) (own := RX4) (lv0 := [(0, .ref (X.2.2 a0)), (1, .int a1), (2, .int a2)]) (by decide +kernel) rfl (Nat.le_of_ble_eq_true rfl) rfl (fun p e s m args below meth c S => ?_) sz
  · unfold f_X4_rings at he
    refine z_aload_n S dX4_rings_0 rfl 0 rfl ?_
    refine z_iload_n S dX4_rings_1 rfl 1 rfl ?_
    refine z_iconst (v := 3) S dX4_rings_2 (by decide) ?_
    refine z_cVI (As := [.int a1, .int 3]) S cv_RX4_57 (K_X4_ofThing h_a0 rfl) h_a0 (by decide) (q := (RX4, TX4, 10)) rfl rfl ⟨rfl, rfl⟩ ⟨Nat.le_of_ble_eq_true rfl, Nat.le_of_ble_eq_true rfl⟩ ⟨Nat.le_refl _, Nat.le_refl _⟩ rfl rfl (Nat.le_of_ble_eq_true rfl) dX4_rings_3 ?_
    refine z_iconst (v := 1) S dX4_rings_6 (by decide) ?_
    refine z_icmp_ne (tgt := 35) S he dX4_rings_7 (by decide) (fun he => ?_) (fun he => ?_)
    · refine z_iconst (v := 0) S dX4_rings_35 (by decide) ?_
      exact z_zret0 S (⟨he, rfl⟩) dX4_rings_36
    · refine z_iload_n S dX4_rings_10 rfl 2 rfl ?_
      refine z_if_le (tgt := 35) S he dX4_rings_11 (by decide) (fun he => ?_) (fun he => ?_)
      · refine z_iconst (v := 0) S dX4_rings_35 (by decide) ?_
        exact z_zret0 S (⟨he, rfl⟩) dX4_rings_36
      · refine z_iload_n S dX4_rings_14 rfl 2 rfl ?_
        refine z_aload_n S dX4_rings_15 rfl 0 rfl ?_
        refine z_iload_n S dX4_rings_16 rfl 1 rfl ?_
        refine z_iconst (v := 1) S dX4_rings_17 (by decide) ?_
        refine z_cVI (As := [.int a1, .int 1]) S cv_RX4_57 (K_X4_ofThing h_a0 rfl) h_a0 (by decide) (q := (RX4, TX4, 10)) rfl rfl ⟨rfl, rfl⟩ ⟨Nat.le_of_ble_eq_true rfl, Nat.le_of_ble_eq_true rfl⟩ ⟨Nat.le_refl _, Nat.le_refl _⟩ rfl rfl (Nat.le_of_ble_eq_true rfl) dX4_rings_18 ?_
        refine z_aload_n S dX4_rings_21 rfl 0 rfl ?_
        refine z_iload_n S dX4_rings_22 rfl 1 rfl ?_
        refine z_iconst (v := 4) S dX4_rings_23 (by decide) ?_
        refine z_cVI (As := [.int a1, .int 4]) S cv_RX4_57 (K_X4_ofThing h_a0 rfl) h_a0 (by decide) (q := (RX4, TX4, 10)) rfl rfl ⟨rfl, rfl⟩ ⟨Nat.le_of_ble_eq_true rfl, Nat.le_of_ble_eq_true rfl⟩ ⟨Nat.le_refl _, Nat.le_refl _⟩ rfl rfl (Nat.le_of_ble_eq_true rfl) dX4_rings_24 ?_
        refine z_isub S dX4_rings_27 ?_
        refine z_icmp_lt (tgt := 35) S he dX4_rings_28 (by decide) (fun he => ?_) (fun he => ?_)
        · refine z_iconst (v := 0) S dX4_rings_35 (by decide) ?_
          exact z_zret0 S (⟨he, rfl⟩) dX4_rings_36
        · refine z_iconst (v := 1) S dX4_rings_31 (by decide) ?_
          refine z_goto (tgt := 36) S dX4_rings_32 (by decide) ?_
          exact z_zret1 S (⟨he, rfl⟩) dX4_rings_36
set_option maxRecDepth 100000 in
set_option maxHeartbeats 4000000 in
theorem p_X4_shownThings_L4 {X : Cx} {p : Program} {l : Launch} {e : Env} {s : State} {m : MethodId} {args : Array Value} {below : List Frame} {meth : Method} {c : Code} (S : SB X 0 p s m args meth c cX4_shownThings 3 (some .int) RX4) {M : Mm} {r : Int32} {v0 : Nat} {v1 : Int32} {v2 : Int32} {x : (Int32 × Int32) ⊕ Int32} (h_v0 : OK 0 v0 4) (he : f_X4_shownThings_L4 M v0 v1 v2 = some x) (hc : ∀ b, x = .inl b → Z X 0 p l e rm_X4_shownThings s m args below meth c 0 0 (MQ below (QI X 0 r M s.heap.size) args s 0 0 (AA X 0 s.heap.size)) 3 M 4 [(0, .ref (X.2.2 v0)), (1, .int b.1), (2, .int b.2)] []) (hx : ∀ b, x = .inr b → Z X 0 p l e rm_X4_shownThings s m args below meth c 0 0 (MQ below (QI X 0 r M s.heap.size) args s 0 0 (AA X 0 s.heap.size)) 3 M 29 [(1, .int b)] []) : Z X 0 p l e rm_X4_shownThings s m args below meth c 0 0 (MQ below (QI X 0 r M s.heap.size) args s 0 0 (AA X 0 s.heap.size)) 3 M 4 [(0, .ref (X.2.2 v0)), (1, .int v1), (2, .int v2)] [] := by
  unfold f_X4_shownThings_L4 at he
  refine z_iload_n S dX4_shownThings_4 rfl 2 rfl ?_
  refine z_aload_n S dX4_shownThings_5 rfl 0 rfl ?_
  refine z_getI S fo_RX4_34 rfl h_v0 dX4_shownThings_6 ?_
  refine z_icmp_ge (tgt := 29) S he dX4_shownThings_9 (by decide) (fun he => ?_) (fun he => ?_)
  · refine z_lv (ks := [1]) rfl ?_
    exact hx _ (Option.some.inj he).symm
  · refine z_iload_n S dX4_shownThings_12 rfl 1 rfl ?_
    refine z_aload_n S dX4_shownThings_13 rfl 0 rfl ?_
    refine z_iload_n S dX4_shownThings_14 rfl 2 rfl ?_
    refine z_iconst (v := 3) S dX4_shownThings_15 (by decide) ?_
    refine z_cVI (As := [.int v2, .int 3]) S cv_RX4_57 (K_X4_ofThing h_v0 rfl) h_v0 (by decide) (q := (RX4, TX4, 10)) rfl rfl ⟨rfl, rfl⟩ ⟨Nat.le_of_ble_eq_true rfl, Nat.le_of_ble_eq_true rfl⟩ ⟨Nat.le_refl _, Nat.le_refl _⟩ rfl rfl (Nat.le_of_ble_eq_true rfl) dX4_shownThings_16 ?_
    refine z_iload_n S dX4_shownThings_19 rfl 2 rfl ?_
    refine z_ishl S dX4_shownThings_20 ?_
    refine z_ior S dX4_shownThings_21 ?_
    obtain ⟨x1, ex1, he⟩ := bnd he
    rw [Option.some.inj ex1]
    refine z_istore_n (lv' := [(0, .ref (X.2.2 v0)), (1, .int x1), (2, .int v2)]) S [1, 0, 2] dX4_shownThings_22 rfl (by decide) rfl ?_
    refine z_iinc (v := (v2 + 1)) (lv' := [(0, .ref (X.2.2 v0)), (1, .int x1), (2, .int (v2 + 1))]) S [1, 2, 0] 2 dX4_shownThings_23 rfl (by rfl) (by decide) rfl ?_
    refine z_goto (tgt := 4) S dX4_shownThings_26 (by decide) ?_
    refine z_lv (ks := [0, 1, 2]) rfl ?_
    exact hc _ (Option.some.inj he).symm
set_option maxRecDepth 100000 in
set_option maxHeartbeats 4000000 in
theorem K_X4_shownThings {X : Cx} {l : Launch} {M : Mm} {a0 : Nat} {r : Int32} (h_a0 : OK 0 a0 4) (he : f_X4_shownThings M a0 = some r) : KI X 0 l yX4_shownThings (wz yX4_shownThings cX4_shownThings 3 (some .int)) rm_X4_shownThings [.ref (X.2.2 a0)] M r M := by
  intro sz
  refine K_of (Qc := (fun sz => QI X 0 r M sz)) (own := RX4) (lv0 := [(0, .ref (X.2.2 a0))]) (by decide +kernel) rfl (Nat.le_of_ble_eq_true rfl) rfl (fun p e s m args below meth c S => ?_) sz
  · unfold f_X4_shownThings at he
    refine z_iconst (v := 0) S dX4_shownThings_0 (by decide) ?_
    refine z_istore_n (lv' := [(0, .ref (X.2.2 a0)), (1, .int 0)]) S [1, 0] dX4_shownThings_1 rfl (by decide) rfl ?_
    refine z_iconst (v := 0) S dX4_shownThings_2 (by decide) ?_
    refine z_istore_n (lv' := [(0, .ref (X.2.2 a0)), (1, .int 0), (2, .int 0)]) S [1, 2, 0] dX4_shownThings_3 rfl (by decide) rfl ?_
    obtain ⟨e_2, hl, he⟩ := bnd he
    have hX : Z X 0 p l e rm_X4_shownThings s m args below meth c 0 0 (MQ below (QI X 0 r M s.heap.size) args s 0 0 (AA X 0 s.heap.size)) 3 M 29 [(1, .int e_2)] [] := by
      refine z_iload_n S dX4_shownThings_29 rfl 0 rfl ?_
      exact z_iret S (⟨Option.some.inj he, rfl⟩) dX4_shownThings_30
    have hZ9 := loopZ (f := (fun a_2 => f_X4_shownThings_L4 M a0 a_2.1 a_2.2)) (Zh := (fun a_2 => Z X 0 p l e rm_X4_shownThings s m args below meth c 0 0 (MQ below (QI X 0 r M s.heap.size) args s 0 0 (AA X 0 s.heap.size)) 3 M 4 [(0, .ref (X.2.2 a0)), (1, .int a_2.1), (2, .int a_2.2)] [])) (fun a_2 x hb hc hr => p_X4_shownThings_L4 S h_a0 hb hc (fun b hxe => by rw [hr b hxe]; exact hX)) FU (0, 0) hl
    exact hZ9
set_option maxRecDepth 100000 in
set_option maxHeartbeats 4000000 in
theorem p_X4_sumOfThings_L4 {X : Cx} {p : Program} {l : Launch} {e : Env} {s : State} {m : MethodId} {args : Array Value} {below : List Frame} {meth : Method} {c : Code} (S : SB X 0 p s m args meth c cX4_sumOfThings 4 (some .int) RX4) {M : Mm} {r : Int32} {v0 : Nat} {v1 : Int32} {v2 : Int32} {v3 : Int32} {x : (Int32 × Int32) ⊕ Int32} (h_v0 : OK 0 v0 4) (he : f_X4_sumOfThings_L4 M v0 v1 v2 v3 = some x) (hc : ∀ b, x = .inl b → Z X 0 p l e rm_X4_sumOfThings s m args below meth c 0 0 (MQ below (QI X 0 r M s.heap.size) args s 0 0 (AA X 0 s.heap.size)) 4 M 4 [(0, .ref (X.2.2 v0)), (1, .int v1), (2, .int b.1), (3, .int b.2)] []) (hx : ∀ b, x = .inr b → Z X 0 p l e rm_X4_sumOfThings s m args below meth c 0 0 (MQ below (QI X 0 r M s.heap.size) args s 0 0 (AA X 0 s.heap.size)) 4 M 27 [(2, .int b)] []) : Z X 0 p l e rm_X4_sumOfThings s m args below meth c 0 0 (MQ below (QI X 0 r M s.heap.size) args s 0 0 (AA X 0 s.heap.size)) 4 M 4 [(0, .ref (X.2.2 v0)), (1, .int v1), (2, .int v2), (3, .int v3)] [] := by
  unfold f_X4_sumOfThings_L4 at he
  refine z_iload_n S dX4_sumOfThings_4 rfl 3 rfl ?_
  refine z_aload_n S dX4_sumOfThings_5 rfl 0 rfl ?_
  refine z_getI S fo_RX4_34 rfl h_v0 dX4_sumOfThings_6 ?_
  refine z_icmp_ge (tgt := 27) S he dX4_sumOfThings_9 (by decide) (fun he => ?_) (fun he => ?_)
  · refine z_lv (ks := [2]) rfl ?_
    exact hx _ (Option.some.inj he).symm
  · refine z_iload_n S dX4_sumOfThings_12 rfl 2 rfl ?_
    refine z_aload_n S dX4_sumOfThings_13 rfl 0 rfl ?_
    refine z_iload_n S dX4_sumOfThings_14 rfl 3 rfl ?_
    refine z_iload_n S dX4_sumOfThings_15 rfl 1 rfl ?_
    refine z_cVI (As := [.int v3, .int v1]) S cv_RX4_57 (K_X4_ofThing h_v0 rfl) h_v0 (by decide) (q := (RX4, TX4, 10)) rfl rfl ⟨rfl, rfl⟩ ⟨Nat.le_of_ble_eq_true rfl, Nat.le_of_ble_eq_true rfl⟩ ⟨Nat.le_refl _, Nat.le_refl _⟩ rfl rfl (Nat.le_of_ble_eq_true rfl) dX4_sumOfThings_16 ?_
    refine z_iadd S dX4_sumOfThings_19 ?_
    obtain ⟨x1, ex1, he⟩ := bnd he
    rw [Option.some.inj ex1]
    refine z_istore_n (lv' := [(0, .ref (X.2.2 v0)), (1, .int v1), (2, .int x1), (3, .int v3)]) S [1, 2, 0, 3] dX4_sumOfThings_20 rfl (by decide) rfl ?_
    refine z_iinc (v := (v3 + 1)) (lv' := [(0, .ref (X.2.2 v0)), (1, .int v1), (2, .int x1), (3, .int (v3 + 1))]) S [1, 2, 3, 0] 3 dX4_sumOfThings_21 rfl (by rfl) (by decide) rfl ?_
    refine z_goto (tgt := 4) S dX4_sumOfThings_24 (by decide) ?_
    refine z_lv (ks := [0, 1, 2, 3]) rfl ?_
    exact hc _ (Option.some.inj he).symm
set_option maxRecDepth 100000 in
set_option maxHeartbeats 4000000 in
theorem K_X4_sumOfThings {X : Cx} {l : Launch} {M : Mm} {a0 : Nat} {a1 : Int32} {r : Int32} (h_a0 : OK 0 a0 4) (he : f_X4_sumOfThings M a0 a1 = some r) : KI X 0 l yX4_sumOfThings (wz yX4_sumOfThings cX4_sumOfThings 4 (some .int)) rm_X4_sumOfThings [.ref (X.2.2 a0), .int a1] M r M := by
  intro sz
  refine K_of (Qc := (fun sz => QI X 0 r M sz)) (own := RX4) (lv0 := [(0, .ref (X.2.2 a0)), (1, .int a1)]) (by decide +kernel) rfl (Nat.le_of_ble_eq_true rfl) rfl (fun p e s m args below meth c S => ?_) sz
  · unfold f_X4_sumOfThings at he
    refine z_iconst (v := 0) S dX4_sumOfThings_0 (by decide) ?_
    refine z_istore_n (lv' := [(0, .ref (X.2.2 a0)), (1, .int a1), (2, .int 0)]) S [1, 2, 0] dX4_sumOfThings_1 rfl (by decide) rfl ?_
    refine z_iconst (v := 0) S dX4_sumOfThings_2 (by decide) ?_
    refine z_istore_n (lv' := [(0, .ref (X.2.2 a0)), (1, .int a1), (2, .int 0), (3, .int 0)]) S [1, 2, 3, 0] dX4_sumOfThings_3 rfl (by decide) rfl ?_
    obtain ⟨e_2, hl, he⟩ := bnd he
    have hX : Z X 0 p l e rm_X4_sumOfThings s m args below meth c 0 0 (MQ below (QI X 0 r M s.heap.size) args s 0 0 (AA X 0 s.heap.size)) 4 M 27 [(2, .int e_2)] [] := by
      refine z_iload_n S dX4_sumOfThings_27 rfl 0 rfl ?_
      exact z_iret S (⟨Option.some.inj he, rfl⟩) dX4_sumOfThings_28
    have hZ9 := loopZ (f := (fun a_2 => f_X4_sumOfThings_L4 M a0 a1 a_2.1 a_2.2)) (Zh := (fun a_2 => Z X 0 p l e rm_X4_sumOfThings s m args below meth c 0 0 (MQ below (QI X 0 r M s.heap.size) args s 0 0 (AA X 0 s.heap.size)) 4 M 4 [(0, .ref (X.2.2 a0)), (1, .int a1), (2, .int a_2.1), (3, .int a_2.2)] [])) (fun a_2 x hb hc hr => p_X4_sumOfThings_L4 S h_a0 hb hc (fun b hxe => by rw [hr b hxe]; exact hX)) FU (0, 0) hl
    exact hZ9
set_option maxRecDepth 100000 in
set_option maxHeartbeats 4000000 in
theorem K_X4_swapCells {X : Cx} {l : Launch} {M : Mm} {a0 : Nat} {a1 : Int32} {a2 : Int32} {N : Mm} (h_a0 : OK 0 a0 4) (he : f_X4_swapCells M a0 a1 a2 = some N) : KV X 0 l yX4_swapCells (wz yX4_swapCells cX4_swapCells 4 none) rm_X4_swapCells [.ref (X.2.2 a0), .int a1, .int a2] M N := by
  intro sz
  refine K_of (Qc := (fun sz => QV X 0 N sz)) (own := RX4) (lv0 := [(0, .ref (X.2.2 a0)), (1, .int a1), (2, .int a2)]) (by decide +kernel) rfl (Nat.le_of_ble_eq_true rfl) rfl (fun p e s m args below meth c S => ?_) sz
  · unfold f_X4_swapCells at he
    refine z_aload_n S dX4_swapCells_0 rfl 0 rfl ?_
    refine z_iload_n S dX4_swapCells_1 rfl 1 rfl ?_
    refine z_iconst (v := 0) S dX4_swapCells_2 (by decide) ?_
    refine z_cVI (As := [.int a1, .int 0]) S cv_RX4_57 (K_X4_ofThing h_a0 rfl) h_a0 (by decide) (q := (RX4, TX4, 10)) rfl rfl ⟨rfl, rfl⟩ ⟨Nat.le_of_ble_eq_true rfl, Nat.le_of_ble_eq_true rfl⟩ ⟨Nat.le_refl _, Nat.le_refl _⟩ rfl rfl (Nat.le_of_ble_eq_true rfl) dX4_swapCells_3 ?_
    refine z_istore_n (lv' := [(0, .ref (X.2.2 a0)), (1, .int a1), (2, .int a2), (3, .int (f_X4_ofThing M a0 a1 0))]) S [1, 2, 3, 0] dX4_swapCells_6 rfl (by decide) rfl ?_
    refine z_aload_n S dX4_swapCells_7 rfl 0 rfl ?_
    refine z_iload_n S dX4_swapCells_8 rfl 1 rfl ?_
    refine z_iconst (v := 0) S dX4_swapCells_9 (by decide) ?_
    refine z_aload_n S dX4_swapCells_10 rfl 0 rfl ?_
    refine z_iload_n S dX4_swapCells_11 rfl 2 rfl ?_
    refine z_iconst (v := 0) S dX4_swapCells_12 (by decide) ?_
    refine z_cVI (As := [.int a2, .int 0]) S cv_RX4_57 (K_X4_ofThing h_a0 rfl) h_a0 (by decide) (q := (RX4, TX4, 10)) rfl rfl ⟨rfl, rfl⟩ ⟨Nat.le_of_ble_eq_true rfl, Nat.le_of_ble_eq_true rfl⟩ ⟨Nat.le_refl _, Nat.le_refl _⟩ rfl rfl (Nat.le_of_ble_eq_true rfl) dX4_swapCells_13 ?_
    obtain ⟨M1, h9, he⟩ := bnd he
    refine z_cVV (As := [.int a1, .int 0, .int (f_X4_ofThing M a0 a2 0)]) S cv_RX4_61 (K_X4_setThing h_a0 (Option.some.inj h9)) h_a0 (by decide) (q := (RX4, TX4, 10)) rfl rfl ⟨rfl, rfl⟩ ⟨Nat.le_of_ble_eq_true rfl, Nat.le_of_ble_eq_true rfl⟩ ⟨Nat.le_refl _, Nat.le_refl _⟩ rfl rfl (Nat.le_of_ble_eq_true rfl) dX4_swapCells_16 ?_
    refine z_aload_n S dX4_swapCells_19 rfl 0 rfl ?_
    refine z_iload_n S dX4_swapCells_20 rfl 2 rfl ?_
    refine z_iconst (v := 0) S dX4_swapCells_21 (by decide) ?_
    refine z_iload_n S dX4_swapCells_22 rfl 3 rfl ?_
    obtain ⟨M2, h9, he⟩ := bnd he
    refine z_cVV (As := [.int a2, .int 0, .int (f_X4_ofThing M a0 a1 0)]) S cv_RX4_61 (K_X4_setThing h_a0 (Option.some.inj h9)) h_a0 (by decide) (q := (RX4, TX4, 10)) rfl rfl ⟨rfl, rfl⟩ ⟨Nat.le_of_ble_eq_true rfl, Nat.le_of_ble_eq_true rfl⟩ ⟨Nat.le_refl _, Nat.le_refl _⟩ rfl rfl (Nat.le_of_ble_eq_true rfl) dX4_swapCells_23 ?_
    exact z_vret S (Option.some.inj he) dX4_swapCells_26
set_option maxRecDepth 100000 in
set_option maxHeartbeats 4000000 in
theorem p_X4_swapVisitors_L2 {X : Cx} {p : Program} {l : Launch} {e : Env} {s : State} {m : MethodId} {args : Array Value} {below : List Frame} {meth : Method} {c : Code} (S : SB X 0 p s m args meth c cX4_swapVisitors 5 none RX4) {M : Mm} {N : Mm} {v0 : Nat} {v1 : Int32} {v2 : Int32} {v3 : Int32} {x : (Mm × Int32) ⊕ Mm} (h_v0 : OK 0 v0 4) (he : f_X4_swapVisitors_L2 M v0 v1 v2 v3 = some x) (hc : ∀ b, x = .inl b → Z X 0 p l e rm_X4_swapVisitors s m args below meth c 0 0 (MQ below (QV X 0 N s.heap.size) args s 0 0 (AA X 0 s.heap.size)) 5 b.1 2 [(0, .ref (X.2.2 v0)), (1, .int v1), (2, .int v2), (3, .int b.2)] []) (hx : ∀ b, x = .inr b → Z X 0 p l e rm_X4_swapVisitors s m args below meth c 0 0 (MQ below (QV X 0 N s.heap.size) args s 0 0 (AA X 0 s.heap.size)) 5 b 41 [] []) : Z X 0 p l e rm_X4_swapVisitors s m args below meth c 0 0 (MQ below (QV X 0 N s.heap.size) args s 0 0 (AA X 0 s.heap.size)) 5 M 2 [(0, .ref (X.2.2 v0)), (1, .int v1), (2, .int v2), (3, .int v3)] [] := by
  unfold f_X4_swapVisitors_L2 at he
  refine z_iload_n S dX4_swapVisitors_2 rfl 3 rfl ?_
  refine z_iconst (v := 5) S dX4_swapVisitors_3 (by decide) ?_
  refine z_icmp_ge (tgt := 41) S he dX4_swapVisitors_4 (by decide) (fun he => ?_) (fun he => ?_)
  · refine z_lv (ks := []) rfl ?_
    exact hx _ (Option.some.inj he).symm
  · refine z_aload_n S dX4_swapVisitors_7 rfl 0 rfl ?_
    refine z_iload_n S dX4_swapVisitors_8 rfl 1 rfl ?_
    refine z_iload_n S dX4_swapVisitors_9 rfl 3 rfl ?_
    refine z_cVI (As := [.int v1, .int v3]) S cv_RX4_65 (K_X4_ofVisitor h_v0 rfl) h_v0 (by decide) (q := (RX4, TX4, 10)) rfl rfl ⟨rfl, rfl⟩ ⟨Nat.le_of_ble_eq_true rfl, Nat.le_of_ble_eq_true rfl⟩ ⟨Nat.le_refl _, Nat.le_refl _⟩ rfl rfl (Nat.le_of_ble_eq_true rfl) dX4_swapVisitors_10 ?_
    obtain ⟨x1, ex1, he⟩ := bnd he
    rw [Option.some.inj ex1]
    refine z_istore (lv' := [(0, .ref (X.2.2 v0)), (1, .int v1), (2, .int v2), (3, .int v3), (4, .int x1)]) S [1, 2, 3, 4, 0] dX4_swapVisitors_13 (by decide) rfl ?_
    refine z_aload_n S dX4_swapVisitors_15 rfl 0 rfl ?_
    refine z_iload_n S dX4_swapVisitors_16 rfl 1 rfl ?_
    refine z_iload_n S dX4_swapVisitors_17 rfl 3 rfl ?_
    refine z_aload_n S dX4_swapVisitors_18 rfl 0 rfl ?_
    refine z_iload_n S dX4_swapVisitors_19 rfl 2 rfl ?_
    refine z_iload_n S dX4_swapVisitors_20 rfl 3 rfl ?_
    refine z_cVI (As := [.int v2, .int v3]) S cv_RX4_65 (K_X4_ofVisitor h_v0 rfl) h_v0 (by decide) (q := (RX4, TX4, 10)) rfl rfl ⟨rfl, rfl⟩ ⟨Nat.le_of_ble_eq_true rfl, Nat.le_of_ble_eq_true rfl⟩ ⟨Nat.le_refl _, Nat.le_refl _⟩ rfl rfl (Nat.le_of_ble_eq_true rfl) dX4_swapVisitors_21 ?_
    obtain ⟨M2, h9, he⟩ := bnd he
    refine z_cVV (As := [.int v1, .int v3, .int (f_X4_ofVisitor M v0 v2 v3)]) S cv_RX4_68 (K_X4_setVisitor h_v0 (Option.some.inj h9)) h_v0 (by decide) (q := (RX4, TX4, 10)) rfl rfl ⟨rfl, rfl⟩ ⟨Nat.le_of_ble_eq_true rfl, Nat.le_of_ble_eq_true rfl⟩ ⟨Nat.le_refl _, Nat.le_refl _⟩ rfl rfl (Nat.le_of_ble_eq_true rfl) dX4_swapVisitors_24 ?_
    refine z_aload_n S dX4_swapVisitors_27 rfl 0 rfl ?_
    refine z_iload_n S dX4_swapVisitors_28 rfl 2 rfl ?_
    refine z_iload_n S dX4_swapVisitors_29 rfl 3 rfl ?_
    refine z_iload S dX4_swapVisitors_30 4 rfl ?_
    obtain ⟨M3, h9, he⟩ := bnd he
    refine z_cVV (As := [.int v2, .int v3, .int x1]) S cv_RX4_68 (K_X4_setVisitor h_v0 (Option.some.inj h9)) h_v0 (by decide) (q := (RX4, TX4, 10)) rfl rfl ⟨rfl, rfl⟩ ⟨Nat.le_of_ble_eq_true rfl, Nat.le_of_ble_eq_true rfl⟩ ⟨Nat.le_refl _, Nat.le_refl _⟩ rfl rfl (Nat.le_of_ble_eq_true rfl) dX4_swapVisitors_32 ?_
    refine z_iinc (v := (v3 + 1)) (lv' := [(0, .ref (X.2.2 v0)), (1, .int v1), (2, .int v2), (3, .int (v3 + 1)), (4, .int x1)]) S [1, 2, 3, 0, 4] 3 dX4_swapVisitors_35 rfl (by rfl) (by decide) rfl ?_
    refine z_goto (tgt := 2) S dX4_swapVisitors_38 (by decide) ?_
    refine z_lv (ks := [0, 1, 2, 3]) rfl ?_
    exact hc _ (Option.some.inj he).symm
set_option maxRecDepth 100000 in
set_option maxHeartbeats 4000000 in
theorem K_X4_swapVisitors {X : Cx} {l : Launch} {M : Mm} {a0 : Nat} {a1 : Int32} {a2 : Int32} {N : Mm} (h_a0 : OK 0 a0 4) (he : f_X4_swapVisitors M a0 a1 a2 = some N) : KV X 0 l yX4_swapVisitors (wz yX4_swapVisitors cX4_swapVisitors 5 none) rm_X4_swapVisitors [.ref (X.2.2 a0), .int a1, .int a2] M N := by
  intro sz
  refine K_of (Qc := (fun sz => QV X 0 N sz)) (own := RX4) (lv0 := [(0, .ref (X.2.2 a0)), (1, .int a1), (2, .int a2)]) (by decide +kernel) rfl (Nat.le_of_ble_eq_true rfl) rfl (fun p e s m args below meth c S => ?_) sz
  · unfold f_X4_swapVisitors at he
    refine z_iconst (v := 0) S dX4_swapVisitors_0 (by decide) ?_
    refine z_istore_n (lv' := [(0, .ref (X.2.2 a0)), (1, .int a1), (2, .int a2), (3, .int 0)]) S [1, 2, 3, 0] dX4_swapVisitors_1 rfl (by decide) rfl ?_
    obtain ⟨e_4, hl, he⟩ := bnd he
    have hX : Z X 0 p l e rm_X4_swapVisitors s m args below meth c 0 0 (MQ below (QV X 0 N s.heap.size) args s 0 0 (AA X 0 s.heap.size)) 5 e_4 41 [] [] := by
      exact z_vret S (Option.some.inj he) dX4_swapVisitors_41
    have hZ9 := loopZ (f := (fun a_4 => f_X4_swapVisitors_L2 a_4.1 a0 a1 a2 a_4.2)) (Zh := (fun a_4 => Z X 0 p l e rm_X4_swapVisitors s m args below meth c 0 0 (MQ below (QV X 0 N s.heap.size) args s 0 0 (AA X 0 s.heap.size)) 5 a_4.1 2 [(0, .ref (X.2.2 a0)), (1, .int a1), (2, .int a2), (3, .int a_4.2)] [])) (fun a_4 x hb hc hr => p_X4_swapVisitors_L2 S h_a0 hb hc (fun b hxe => by rw [hr b hxe]; exact hX)) FU (M, 0) hl
    exact hZ9
set_option maxRecDepth 100000 in
set_option maxHeartbeats 4000000 in
theorem p_X4_timesLed_L5 {X : Cx} {p : Program} {l : Launch} {e : Env} {s : State} {m : MethodId} {args : Array Value} {below : List Frame} {meth : Method} {c : Code} (S : SB X 0 p s m args meth c cX4_timesLed 5 (some .int) RX4) {M : Mm} {r : Int32} {v0 : Nat} {v1 : Int32} {v2 : Int32} {v3 : Int32} {v4 : Int32} {x : (Int32 × Int32) ⊕ Int32} (h_v0 : OK 0 v0 4) (he : f_X4_timesLed_L5 M v0 v1 v2 v3 v4 = some x) (hc : ∀ b, x = .inl b → Z X 0 p l e rm_X4_timesLed s m args below meth c 0 0 (MQ below (QI X 0 r M s.heap.size) args s 0 0 (AA X 0 s.heap.size)) 5 M 5 [(0, .ref (X.2.2 v0)), (1, .int v1), (2, .int v2), (3, .int b.1), (4, .int b.2)] []) (hx : ∀ b, x = .inr b → Z X 0 p l e rm_X4_timesLed s m args below meth c 0 0 (MQ below (QI X 0 r M s.heap.size) args s 0 0 (AA X 0 s.heap.size)) 5 M 45 [(3, .int b)] []) : Z X 0 p l e rm_X4_timesLed s m args below meth c 0 0 (MQ below (QI X 0 r M s.heap.size) args s 0 0 (AA X 0 s.heap.size)) 5 M 5 [(0, .ref (X.2.2 v0)), (1, .int v1), (2, .int v2), (3, .int v3), (4, .int v4)] [] := by
  unfold f_X4_timesLed_L5 at he
  refine z_iload S dX4_timesLed_5 4 rfl ?_
  refine z_aload_n S dX4_timesLed_7 rfl 0 rfl ?_
  refine z_cVI (As := []) S cv_RX4_81 (K_X4_logRows h_v0 rfl) h_v0 (by decide) (q := (RX4, TX4, 10)) rfl rfl ⟨rfl, rfl⟩ ⟨Nat.le_of_ble_eq_true rfl, Nat.le_of_ble_eq_true rfl⟩ ⟨Nat.le_refl _, Nat.le_refl _⟩ rfl rfl (Nat.le_of_ble_eq_true rfl) dX4_timesLed_8 ?_
  refine z_icmp_ge (tgt := 45) S he dX4_timesLed_11 (by decide) (fun he => ?_) (fun he => ?_)
  · refine z_lv (ks := [3]) rfl ?_
    exact hx _ (Option.some.inj he).symm
  · refine z_aload_n S dX4_timesLed_14 rfl 0 rfl ?_
    refine z_iload S dX4_timesLed_15 4 rfl ?_
    refine z_iconst (v := 1) S dX4_timesLed_17 (by decide) ?_
    refine z_cVI (As := [.int v4, .int 1]) S cv_RX4_85 (K_X4_logged h_v0 rfl) h_v0 (by decide) (q := (RX4, TX4, 10)) rfl rfl ⟨rfl, rfl⟩ ⟨Nat.le_of_ble_eq_true rfl, Nat.le_of_ble_eq_true rfl⟩ ⟨Nat.le_refl _, Nat.le_refl _⟩ rfl rfl (Nat.le_of_ble_eq_true rfl) dX4_timesLed_18 ?_
    refine z_iload_n S dX4_timesLed_21 rfl 1 rfl ?_
    refine z_icmp_ne (tgt := 39) S he dX4_timesLed_22 (by decide) (fun he => ?_) (fun he => ?_)
    · refine z_iinc (v := (v4 + 1)) (lv' := [(0, .ref (X.2.2 v0)), (1, .int v1), (2, .int v2), (3, .int v3), (4, .int (v4 + 1))]) S [1, 2, 3, 4, 0] 4 dX4_timesLed_39 rfl (by rfl) (by decide) rfl ?_
      refine z_goto (tgt := 5) S dX4_timesLed_42 (by decide) ?_
      refine z_lv (ks := [0, 1, 2, 3, 4]) rfl ?_
      exact hc _ (Option.some.inj he).symm
    · refine z_aload_n S dX4_timesLed_25 rfl 0 rfl ?_
      refine z_iload S dX4_timesLed_26 4 rfl ?_
      refine z_iconst (v := 2) S dX4_timesLed_28 (by decide) ?_
      refine z_cVI (As := [.int v4, .int 2]) S cv_RX4_85 (K_X4_logged h_v0 rfl) h_v0 (by decide) (q := (RX4, TX4, 10)) rfl rfl ⟨rfl, rfl⟩ ⟨Nat.le_of_ble_eq_true rfl, Nat.le_of_ble_eq_true rfl⟩ ⟨Nat.le_refl _, Nat.le_refl _⟩ rfl rfl (Nat.le_of_ble_eq_true rfl) dX4_timesLed_29 ?_
      refine z_iload_n S dX4_timesLed_32 rfl 2 rfl ?_
      refine z_icmp_ne (tgt := 39) S he dX4_timesLed_33 (by decide) (fun he => ?_) (fun he => ?_)
      · refine z_iinc (v := (v4 + 1)) (lv' := [(0, .ref (X.2.2 v0)), (1, .int v1), (2, .int v2), (3, .int v3), (4, .int (v4 + 1))]) S [1, 2, 3, 4, 0] 4 dX4_timesLed_39 rfl (by rfl) (by decide) rfl ?_
        refine z_goto (tgt := 5) S dX4_timesLed_42 (by decide) ?_
        refine z_lv (ks := [0, 1, 2, 3, 4]) rfl ?_
        exact hc _ (Option.some.inj he).symm
      · refine z_iinc (v := (v3 + 1)) (lv' := [(0, .ref (X.2.2 v0)), (1, .int v1), (2, .int v2), (3, .int (v3 + 1)), (4, .int v4)]) S [1, 2, 3, 0, 4] 3 dX4_timesLed_36 rfl (by rfl) (by decide) rfl ?_
        refine z_iinc (v := (v4 + 1)) (lv' := [(0, .ref (X.2.2 v0)), (1, .int v1), (2, .int v2), (3, .int (v3 + 1)), (4, .int (v4 + 1))]) S [1, 2, 3, 4, 0] 4 dX4_timesLed_39 rfl (by rfl) (by decide) rfl ?_
        refine z_goto (tgt := 5) S dX4_timesLed_42 (by decide) ?_
        refine z_lv (ks := [0, 1, 2, 3, 4]) rfl ?_
        exact hc _ (Option.some.inj he).symm
set_option maxRecDepth 100000 in
set_option maxHeartbeats 4000000 in
theorem K_X4_timesLed {X : Cx} {l : Launch} {M : Mm} {a0 : Nat} {a1 : Int32} {a2 : Int32} {r : Int32} (h_a0 : OK 0 a0 4) (he : f_X4_timesLed M a0 a1 a2 = some r) : KI X 0 l yX4_timesLed (wz yX4_timesLed cX4_timesLed 5 (some .int)) rm_X4_timesLed [.ref (X.2.2 a0), .int a1, .int a2] M r M := by
  intro sz
  refine K_of (Qc := (fun sz => QI X 0 r M sz)) (own := RX4) (lv0 := [(0, .ref (X.2.2 a0)), (1, .int a1), (2, .int a2)]) (by decide +kernel) rfl (Nat.le_of_ble_eq_true rfl) rfl (fun p e s m args below meth c S => ?_) sz
  · unfold f_X4_timesLed at he
    refine z_iconst (v := 0) S dX4_timesLed_0 (by decide) ?_
    refine z_istore_n (lv' := [(0, .ref (X.2.2 a0)), (1, .int a1), (2, .int a2), (3, .int 0)]) S [1, 2, 3, 0] dX4_timesLed_1 rfl (by decide) rfl ?_
    refine z_iconst (v := 0) S dX4_timesLed_2 (by decide) ?_
    refine z_istore (lv' := [(0, .ref (X.2.2 a0)), (1, .int a1), (2, .int a2), (3, .int 0), (4, .int 0)]) S [1, 2, 3, 4, 0] dX4_timesLed_3 (by decide) rfl ?_
    obtain ⟨e_1, hl, he⟩ := bnd he
    have hX : Z X 0 p l e rm_X4_timesLed s m args below meth c 0 0 (MQ below (QI X 0 r M s.heap.size) args s 0 0 (AA X 0 s.heap.size)) 5 M 45 [(3, .int e_1)] [] := by
      refine z_iload_n S dX4_timesLed_45 rfl 0 rfl ?_
      exact z_iret S (⟨Option.some.inj he, rfl⟩) dX4_timesLed_46
    have hZ9 := loopZ (f := (fun a_1 => f_X4_timesLed_L5 M a0 a1 a2 a_1.1 a_1.2)) (Zh := (fun a_1 => Z X 0 p l e rm_X4_timesLed s m args below meth c 0 0 (MQ below (QI X 0 r M s.heap.size) args s 0 0 (AA X 0 s.heap.size)) 5 M 5 [(0, .ref (X.2.2 a0)), (1, .int a1), (2, .int a2), (3, .int a_1.1), (4, .int a_1.2)] [])) (fun a_1 x hb hc hr => p_X4_timesLed_L5 S h_a0 hb hc (fun b hxe => by rw [hr b hxe]; exact hX)) FU (0, 0) hl
    exact hZ9
set_option maxRecDepth 100000 in
set_option maxHeartbeats 4000000 in
theorem p_X5_tooMany_L4 {X : Cx} {p : Program} {l : Launch} {e : Env} {s : State} {m : MethodId} {args : Array Value} {below : List Frame} {meth : Method} {c : Code} (S : SB X 0 p s m args meth c cX5_tooMany 4 (some .boolean) RX5) {M : Mm} {r : Bool} {v1 : Int32} {v2 : Int32} {v3 : Int32} {x : (Int32 × Int32) ⊕ Int32}  (he : f_X5_tooMany_L4 M v1 v2 v3 = some x) (hc : ∀ b, x = .inl b → Z X 0 p l e rm_X5_tooMany s m args below meth c 0 0 (MQ below (QI X 0 (bI r) M s.heap.size) args s 0 0 (AA X 0 s.heap.size)) 4 M 4 [(0, .ref (X.2.2 87)), (1, .int v1), (2, .int b.1), (3, .int b.2)] []) (hx : ∀ b, x = .inr b → Z X 0 p l e rm_X5_tooMany s m args below meth c 0 0 (MQ below (QI X 0 (bI r) M s.heap.size) args s 0 0 (AA X 0 s.heap.size)) 4 M 42 [(1, .int v1), (2, .int b)] []) : Z X 0 p l e rm_X5_tooMany s m args below meth c 0 0 (MQ below (QI X 0 (bI r) M s.heap.size) args s 0 0 (AA X 0 s.heap.size)) 4 M 4 [(0, .ref (X.2.2 87)), (1, .int v1), (2, .int v2), (3, .int v3)] [] := by
  unfold f_X5_tooMany_L4 at he
  refine z_iload_n S dX5_tooMany_4 rfl 3 rfl ?_
  refine z_aload_n S dX5_tooMany_5 rfl 0 rfl ?_
  refine z_getI S fo_RX5_24 rfl ok_87 dX5_tooMany_6 ?_
  refine z_icmp_ge (tgt := 42) S he dX5_tooMany_9 (by decide) (fun he => ?_) (fun he => ?_)
  · refine z_lv (ks := [1, 2]) rfl ?_
    exact hx _ (Option.some.inj he).symm
  · refine z_aload_n S dX5_tooMany_12 rfl 0 rfl ?_
    refine z_getF (j := 88) S fo_RX5_9 1 rfl rfl ok_87 dX5_tooMany_13 ?_
    refine z_iload_n S dX5_tooMany_16 rfl 3 rfl ?_
    refine z_cNI (As := [.ref (X.2.2 88), .int v3]) S cn_RX5_35 (Kt_X9_at ok_88 rfl) ⟨rfl, rfl⟩ ⟨Nat.le_of_ble_eq_true rfl, Nat.le_of_ble_eq_true rfl⟩ ⟨Nat.le_refl _, Nat.le_refl _⟩ rfl rfl (Nat.le_of_ble_eq_true rfl) dX5_tooMany_17 ?_
    refine z_iload_n S dX5_tooMany_20 rfl 1 rfl ?_
    refine z_iand S dX5_tooMany_21 ?_
    refine z_if_eq (tgt := 36) S he dX5_tooMany_22 (by decide) (fun he => ?_) (fun he => ?_)
    · refine z_iinc (v := (v3 + 1)) (lv' := [(0, .ref (X.2.2 87)), (1, .int v1), (2, .int v2), (3, .int (v3 + 1))]) S [1, 2, 3, 0] 3 dX5_tooMany_36 rfl (by rfl) (by decide) rfl ?_
      refine z_goto (tgt := 4) S dX5_tooMany_39 (by decide) ?_
      refine z_lv (ks := [0, 1, 2, 3]) rfl ?_
      exact hc _ (Option.some.inj he).symm
    · refine z_iload_n S dX5_tooMany_25 rfl 2 rfl ?_
      refine z_aload_n S dX5_tooMany_26 rfl 0 rfl ?_
      refine z_getF (j := 89) S fo_RX5_15 2 rfl rfl ok_87 dX5_tooMany_27 ?_
      refine z_iload_n S dX5_tooMany_30 rfl 3 rfl ?_
      refine z_cNI (As := [.ref (X.2.2 89), .int v3]) S cn_RX5_35 (Kt_X9_at ok_89 rfl) ⟨rfl, rfl⟩ ⟨Nat.le_of_ble_eq_true rfl, Nat.le_of_ble_eq_true rfl⟩ ⟨Nat.le_refl _, Nat.le_refl _⟩ rfl rfl (Nat.le_of_ble_eq_true rfl) dX5_tooMany_31 ?_
      refine z_iadd S dX5_tooMany_34 ?_
      refine z_istore_n (lv' := [(0, .ref (X.2.2 87)), (1, .int v1), (2, .int (v2 + (t_X9_at M 89 v3))), (3, .int v3)]) S [1, 2, 0, 3] dX5_tooMany_35 rfl (by decide) rfl ?_
      refine z_iinc (v := (v3 + 1)) (lv' := [(0, .ref (X.2.2 87)), (1, .int v1), (2, .int (v2 + (t_X9_at M 89 v3))), (3, .int (v3 + 1))]) S [1, 2, 3, 0] 3 dX5_tooMany_36 rfl (by rfl) (by decide) rfl ?_
      refine z_goto (tgt := 4) S dX5_tooMany_39 (by decide) ?_
      refine z_lv (ks := [0, 1, 2, 3]) rfl ?_
      exact hc _ (Option.some.inj he).symm
set_option maxRecDepth 100000 in
set_option maxHeartbeats 4000000 in
theorem K_X5_tooMany {X : Cx} {l : Launch} {M : Mm} {a1 : Int32} {r : Bool}  (he : f_X5_tooMany M a1 = some r) : KI X 0 l yX5_tooMany (wz yX5_tooMany cX5_tooMany 4 (some .boolean)) rm_X5_tooMany [.ref (X.2.2 87), .int a1] M (bI r) M := by
  intro sz
  refine K_of (Qc := (fun sz => QI X 0 (bI r) M sz)) (own := RX5) (lv0 := [(0, .ref (X.2.2 87)), (1, .int a1)]) (by decide +kernel) rfl (Nat.le_of_ble_eq_true rfl) rfl (fun p e s m args below meth c S => ?_) sz
  · unfold f_X5_tooMany at he
    refine z_iconst (v := 0) S dX5_tooMany_0 (by decide) ?_
    refine z_istore_n (lv' := [(0, .ref (X.2.2 87)), (1, .int a1), (2, .int 0)]) S [1, 2, 0] dX5_tooMany_1 rfl (by decide) rfl ?_
    refine z_iconst (v := 0) S dX5_tooMany_2 (by decide) ?_
    refine z_istore_n (lv' := [(0, .ref (X.2.2 87)), (1, .int a1), (2, .int 0), (3, .int 0)]) S [1, 2, 3, 0] dX5_tooMany_3 rfl (by decide) rfl ?_
    obtain ⟨e_1, hl, he⟩ := bnd he
    have hX : Z X 0 p l e rm_X5_tooMany s m args below meth c 0 0 (MQ below (QI X 0 (bI r) M s.heap.size) args s 0 0 (AA X 0 s.heap.size)) 4 M 42 [(1, .int a1), (2, .int e_1)] [] := by
      refine z_iload_n S dX5_tooMany_42 rfl 0 rfl ?_
      obtain ⟨r2, h9, he⟩ := bnd he
      refine z_cSI (As := [.int a1]) S cs_RX5_47 (K_J6_bitCount_0f7a4  h9) ⟨rfl, rfl⟩ ⟨Nat.le_of_ble_eq_true rfl, Nat.le_of_ble_eq_true rfl⟩ ⟨Nat.le_refl _, Nat.le_refl _⟩ rfl rfl (Nat.le_of_ble_eq_true rfl) dX5_tooMany_43 ?_
      refine z_iload_n S dX5_tooMany_46 rfl 1 rfl ?_
      refine z_icmp_le (tgt := 54) S he dX5_tooMany_47 (by decide) (fun he => ?_) (fun he => ?_)
      · refine z_iconst (v := 0) S dX5_tooMany_54 (by decide) ?_
        exact z_zret0 S (⟨Option.some.inj he, rfl⟩) dX5_tooMany_55
      · refine z_iconst (v := 1) S dX5_tooMany_50 (by decide) ?_
        refine z_goto (tgt := 55) S dX5_tooMany_51 (by decide) ?_
        exact z_zret1 S (⟨Option.some.inj he, rfl⟩) dX5_tooMany_55
    have hZ9 := loopZ (f := (fun a_1 => f_X5_tooMany_L4 M a1 a_1.1 a_1.2)) (Zh := (fun a_1 => Z X 0 p l e rm_X5_tooMany s m args below meth c 0 0 (MQ below (QI X 0 (bI r) M s.heap.size) args s 0 0 (AA X 0 s.heap.size)) 4 M 4 [(0, .ref (X.2.2 87)), (1, .int a1), (2, .int a_1.1), (3, .int a_1.2)] [])) (fun a_1 x hb hc hr => p_X5_tooMany_L4 S  hb hc (fun b hxe => by rw [hr b hxe]; exact hX)) FU (0, 0) hl
    exact hZ9
set_option maxRecDepth 100000 in
set_option maxHeartbeats 4000000 in
theorem p_X5_anyTooMany_L4 {X : Cx} {p : Program} {l : Launch} {e : Env} {s : State} {m : MethodId} {args : Array Value} {below : List Frame} {meth : Method} {c : Code} (S : SB X 0 p s m args meth c cX5_anyTooMany 4 (some .boolean) RX5) {M : Mm} {r : Bool} {v1 : Int32} {v3 : Int32} {x : Int32 ⊕ ((Bool) ⊕ Unit)}  (he : f_X5_anyTooMany_L4 M v1 v3 = some x) (hc : ∀ b, x = .inl b → Z X 0 p l e rm_X5_anyTooMany s m args below meth c 0 0 (MQ below (QI X 0 (bI r) M s.heap.size) args s 0 0 (AA X 0 s.heap.size)) 4 M 4 [(0, .ref (X.2.2 87)), (1, .int v1), (3, .int b)] []) (hx : ∀ b, x = .inr (.inr b) → Z X 0 p l e rm_X5_anyTooMany s m args below meth c 0 0 (MQ below (QI X 0 (bI r) M s.heap.size) args s 0 0 (AA X 0 s.heap.size)) 4 M 33 [] []) (hr : ∀ v, x = .inr (.inl v) → v = r) : Z X 0 p l e rm_X5_anyTooMany s m args below meth c 0 0 (MQ below (QI X 0 (bI r) M s.heap.size) args s 0 0 (AA X 0 s.heap.size)) 4 M 4 [(0, .ref (X.2.2 87)), (1, .int v1), (3, .int v3)] [] := by
  unfold f_X5_anyTooMany_L4 at he
  refine z_iload_n S dX5_anyTooMany_4 rfl 2 rfl ?_
  refine z_iload_n S dX5_anyTooMany_5 rfl 1 rfl ?_
  refine z_icmp_gt (tgt := 33) S he dX5_anyTooMany_6 (by decide) (fun he => ?_) (fun he => ?_)
  · refine z_lv (ks := []) rfl ?_
    exact hx _ (Option.some.inj he).symm
  · refine z_iload_n S dX5_anyTooMany_9 rfl 2 rfl ?_
    refine z_iload_n S dX5_anyTooMany_10 rfl 1 rfl ?_
    refine z_iconst (v := (-1)) S dX5_anyTooMany_11 (by decide) ?_
    refine z_ixor S dX5_anyTooMany_12 ?_
    refine z_iand S dX5_anyTooMany_13 ?_
    refine z_if_ne (tgt := 27) S he dX5_anyTooMany_14 (by decide) (fun he => ?_) (fun he => ?_)
    · refine z_iinc (v := (v3 + 1)) (lv' := [(0, .ref (X.2.2 87)), (1, .int v1), (3, .int (v3 + 1))]) S [1, 2, 0] 2 dX5_anyTooMany_27 rfl (by rfl) (by decide) rfl ?_
      refine z_goto (tgt := 4) S dX5_anyTooMany_30 (by decide) ?_
      refine z_lv (ks := [0, 1, 2]) rfl ?_
      exact hc _ (Option.some.inj he).symm
    · refine z_aload_n S dX5_anyTooMany_17 rfl 0 rfl ?_
      refine z_iload_n S dX5_anyTooMany_18 rfl 2 rfl ?_
      obtain ⟨r1, h9, he⟩ := bnd he
      refine z_cVI (As := [.int v3]) S cv_RX5_53 (K_X5_tooMany  h9) ok_87 (by decide) (q := (RX5, TX5, 5)) rfl rfl ⟨rfl, rfl⟩ ⟨Nat.le_of_ble_eq_true rfl, Nat.le_of_ble_eq_true rfl⟩ ⟨Nat.le_refl _, Nat.le_refl _⟩ rfl rfl (Nat.le_of_ble_eq_true rfl) dX5_anyTooMany_19 ?_
      refine z_ifb_eq (tgt := 27) S he dX5_anyTooMany_22 (by decide) (fun he => ?_) (fun he => ?_)
      · refine z_iinc (v := (v3 + 1)) (lv' := [(0, .ref (X.2.2 87)), (1, .int v1), (3, .int (v3 + 1))]) S [1, 2, 0] 2 dX5_anyTooMany_27 rfl (by rfl) (by decide) rfl ?_
        refine z_goto (tgt := 4) S dX5_anyTooMany_30 (by decide) ?_
        refine z_lv (ks := [0, 1, 2]) rfl ?_
        exact hc _ (Option.some.inj he).symm
      · refine z_iconst (v := 1) S dX5_anyTooMany_25 (by decide) ?_
        exact z_zret1 S (⟨hr _ (Option.some.inj he).symm, rfl⟩) dX5_anyTooMany_26
set_option maxRecDepth 100000 in
set_option maxHeartbeats 4000000 in
theorem K_X5_anyTooMany {X : Cx} {l : Launch} {M : Mm} {a1 : Int32} {a2 : Int32} {r : Bool}  (he : f_X5_anyTooMany M a1 a2 = some r) : KI X 0 l yX5_anyTooMany (wz yX5_anyTooMany cX5_anyTooMany 4 (some .boolean)) rm_X5_anyTooMany [.ref (X.2.2 87), .int a1, .int a2] M (bI r) M := by
  intro sz
  refine K_of (Qc := (fun sz => QI X 0 (bI r) M sz)) (own := RX5) (lv0 := [(0, .ref (X.2.2 87)), (1, .int a1), (2, .int a2)]) (by decide +kernel) rfl (Nat.le_of_ble_eq_true rfl) rfl (fun p e s m args below meth c S => ?_) sz
  · unfold f_X5_anyTooMany at he
    refine z_iconst (v := 1) S dX5_anyTooMany_0 (by decide) ?_
    refine z_iload_n S dX5_anyTooMany_1 rfl 2 rfl ?_
    refine z_ishl S dX5_anyTooMany_2 ?_
    refine z_istore_n (lv' := [(0, .ref (X.2.2 87)), (1, .int a1), (3, .int (1 <<< (a2 &&& 31)))]) S [1, 2, 0] dX5_anyTooMany_3 rfl (by decide) rfl ?_
    obtain ⟨r9, hl, hr1, hr2⟩ := bndS he
    have hX : ∀ e_2, r9 = .inr e_2 → Z X 0 p l e rm_X5_anyTooMany s m args below meth c 0 0 (MQ below (QI X 0 (bI r) M s.heap.size) args s 0 0 (AA X 0 s.heap.size)) 4 M 33 [] [] := by
      intro e_2 hre
      have he := hr2 e_2 hre
      refine z_iconst (v := 0) S dX5_anyTooMany_33 (by decide) ?_
      exact z_zret0 S (⟨Option.some.inj he, rfl⟩) dX5_anyTooMany_34
    have hZ9 := loopZ (f := (fun a_2 => f_X5_anyTooMany_L4 M a1 a_2)) (Zh := (fun a_2 => Z X 0 p l e rm_X5_anyTooMany s m args below meth c 0 0 (MQ below (QI X 0 (bI r) M s.heap.size) args s 0 0 (AA X 0 s.heap.size)) 4 M 4 [(0, .ref (X.2.2 87)), (1, .int a1), (3, .int a_2)] [])) (fun a_2 x hb hc hr9 => p_X5_anyTooMany_L4 S  hb hc (fun b hxe => hX b (hr9 _ hxe).symm) (fun v hxv => Option.some.inj (hr1 v (hr9 _ hxv).symm))) FU (1 <<< (a2 &&& 31)) hl
    exact hZ9
set_option maxRecDepth 100000 in
set_option maxHeartbeats 4000000 in
theorem p_X5_ringAllFor_L2 {X : Cx} {p : Program} {l : Launch} {e : Env} {s : State} {m : MethodId} {args : Array Value} {below : List Frame} {meth : Method} {c : Code} (S : SB X 0 p s m args meth c cX5_ringAllFor 4 (some .boolean) RX5) {M : Mm} {r : Bool} {v1 : Int32} {v2 : Int32} {x : Int32 ⊕ ((Bool) ⊕ Unit)}  (he : f_X5_ringAllFor_L2 M v1 v2 = some x) (hc : ∀ b, x = .inl b → Z X 0 p l e rm_X5_ringAllFor s m args below meth c 0 0 (MQ below (QI X 0 (bI r) M s.heap.size) args s 0 0 (AA X 0 s.heap.size)) 4 M 2 [(0, .ref (X.2.2 87)), (1, .int v1), (2, .int b)] []) (hx : ∀ b, x = .inr (.inr b) → Z X 0 p l e rm_X5_ringAllFor s m args below meth c 0 0 (MQ below (QI X 0 (bI r) M s.heap.size) args s 0 0 (AA X 0 s.heap.size)) 4 M 37 [] []) (hr : ∀ v, x = .inr (.inl v) → v = r) : Z X 0 p l e rm_X5_ringAllFor s m args below meth c 0 0 (MQ below (QI X 0 (bI r) M s.heap.size) args s 0 0 (AA X 0 s.heap.size)) 4 M 2 [(0, .ref (X.2.2 87)), (1, .int v1), (2, .int v2)] [] := by
  unfold f_X5_ringAllFor_L2 at he
  refine z_iload_n S dX5_ringAllFor_2 rfl 2 rfl ?_
  refine z_aload_n S dX5_ringAllFor_3 rfl 0 rfl ?_
  refine z_getI S fo_RX5_24 rfl ok_87 dX5_ringAllFor_4 ?_
  refine z_icmp_ge (tgt := 37) S he dX5_ringAllFor_7 (by decide) (fun he => ?_) (fun he => ?_)
  · refine z_lv (ks := []) rfl ?_
    exact hx _ (Option.some.inj he).symm
  · refine z_aload_n S dX5_ringAllFor_10 rfl 0 rfl ?_
    refine z_getF (j := 88) S fo_RX5_9 1 rfl rfl ok_87 dX5_ringAllFor_11 ?_
    refine z_iload_n S dX5_ringAllFor_14 rfl 2 rfl ?_
    refine z_cNI (As := [.ref (X.2.2 88), .int v2]) S cn_RX5_35 (Kt_X9_at ok_88 rfl) ⟨rfl, rfl⟩ ⟨Nat.le_of_ble_eq_true rfl, Nat.le_of_ble_eq_true rfl⟩ ⟨Nat.le_refl _, Nat.le_refl _⟩ rfl rfl (Nat.le_of_ble_eq_true rfl) dX5_ringAllFor_15 ?_
    refine z_istore_n (lv' := [(0, .ref (X.2.2 87)), (1, .int v1), (2, .int v2), (3, .int (t_X9_at M 88 v2))]) S [1, 2, 3, 0] dX5_ringAllFor_18 rfl (by decide) rfl ?_
    refine z_iload_n S dX5_ringAllFor_19 rfl 3 rfl ?_
    refine z_if_eq (tgt := 31) S he dX5_ringAllFor_20 (by decide) (fun he => ?_) (fun he => ?_)
    · refine z_iinc (v := (v2 + 1)) (lv' := [(0, .ref (X.2.2 87)), (1, .int v1), (2, .int (v2 + 1)), (3, .int (t_X9_at M 88 v2))]) S [1, 2, 0, 3] 2 dX5_ringAllFor_31 rfl (by rfl) (by decide) rfl ?_
      refine z_goto (tgt := 2) S dX5_ringAllFor_34 (by decide) ?_
      refine z_lv (ks := [0, 1, 2]) rfl ?_
      exact hc _ (Option.some.inj he).symm
    · refine z_iload_n S dX5_ringAllFor_23 rfl 3 rfl ?_
      refine z_iload_n S dX5_ringAllFor_24 rfl 1 rfl ?_
      refine z_iand S dX5_ringAllFor_25 ?_
      refine z_if_ne (tgt := 31) S he dX5_ringAllFor_26 (by decide) (fun he => ?_) (fun he => ?_)
      · refine z_iinc (v := (v2 + 1)) (lv' := [(0, .ref (X.2.2 87)), (1, .int v1), (2, .int (v2 + 1)), (3, .int (t_X9_at M 88 v2))]) S [1, 2, 0, 3] 2 dX5_ringAllFor_31 rfl (by rfl) (by decide) rfl ?_
        refine z_goto (tgt := 2) S dX5_ringAllFor_34 (by decide) ?_
        refine z_lv (ks := [0, 1, 2]) rfl ?_
        exact hc _ (Option.some.inj he).symm
      · refine z_iconst (v := 0) S dX5_ringAllFor_29 (by decide) ?_
        exact z_zret0 S (⟨hr _ (Option.some.inj he).symm, rfl⟩) dX5_ringAllFor_30
set_option maxRecDepth 100000 in
set_option maxHeartbeats 4000000 in
theorem K_X5_ringAllFor {X : Cx} {l : Launch} {M : Mm} {a1 : Int32} {r : Bool}  (he : f_X5_ringAllFor M a1 = some r) : KI X 0 l yX5_ringAllFor (wz yX5_ringAllFor cX5_ringAllFor 4 (some .boolean)) rm_X5_ringAllFor [.ref (X.2.2 87), .int a1] M (bI r) M := by
  intro sz
  refine K_of (Qc := (fun sz => QI X 0 (bI r) M sz)) (own := RX5) (lv0 := [(0, .ref (X.2.2 87)), (1, .int a1)]) (by decide +kernel) rfl (Nat.le_of_ble_eq_true rfl) rfl (fun p e s m args below meth c S => ?_) sz
  · unfold f_X5_ringAllFor at he
    refine z_iconst (v := 0) S dX5_ringAllFor_0 (by decide) ?_
    refine z_istore_n (lv' := [(0, .ref (X.2.2 87)), (1, .int a1), (2, .int 0)]) S [1, 2, 0] dX5_ringAllFor_1 rfl (by decide) rfl ?_
    obtain ⟨r9, hl, hr1, hr2⟩ := bndS he
    have hX : ∀ e_1, r9 = .inr e_1 → Z X 0 p l e rm_X5_ringAllFor s m args below meth c 0 0 (MQ below (QI X 0 (bI r) M s.heap.size) args s 0 0 (AA X 0 s.heap.size)) 4 M 37 [] [] := by
      intro e_1 hre
      have he := hr2 e_1 hre
      refine z_iconst (v := 1) S dX5_ringAllFor_37 (by decide) ?_
      exact z_zret1 S (⟨Option.some.inj he, rfl⟩) dX5_ringAllFor_38
    have hZ9 := loopZ (f := (fun a_1 => f_X5_ringAllFor_L2 M a1 a_1)) (Zh := (fun a_1 => Z X 0 p l e rm_X5_ringAllFor s m args below meth c 0 0 (MQ below (QI X 0 (bI r) M s.heap.size) args s 0 0 (AA X 0 s.heap.size)) 4 M 2 [(0, .ref (X.2.2 87)), (1, .int a1), (2, .int a_1)] [])) (fun a_1 x hb hc hr9 => p_X5_ringAllFor_L2 S  hb hc (fun b hxe => hX b (hr9 _ hxe).symm) (fun v hxv => Option.some.inj (hr1 v (hr9 _ hxv).symm))) FU 0 hl
    exact hZ9
set_option maxRecDepth 100000 in
set_option maxHeartbeats 4000000 in
theorem p_X5_fewestForAll_L9 {X : Cx} {p : Program} {l : Launch} {e : Env} {s : State} {m : MethodId} {args : Array Value} {below : List Frame} {meth : Method} {c : Code} (S : SB X 0 p s m args meth c cX5_fewestForAll 3 (some .int) RX5) {M : Mm} {r : Int32} {v1 : Int32} {v2 : Int32} {x : (Int32 × Int32) ⊕ Int32}  (he : f_X5_fewestForAll_L9 M v1 v2 = some x) (hc : ∀ b, x = .inl b → Z X 0 p l e rm_X5_fewestForAll s m args below meth c 0 0 (MQ below (QI X 0 r M s.heap.size) args s 0 0 (AA X 0 s.heap.size)) 3 M 9 [(0, .ref (X.2.2 87)), (1, .int b.1), (2, .int b.2)] []) (hx : ∀ b, x = .inr b → Z X 0 p l e rm_X5_fewestForAll s m args below meth c 0 0 (MQ below (QI X 0 r M s.heap.size) args s 0 0 (AA X 0 s.heap.size)) 3 M 44 [(1, .int b)] []) : Z X 0 p l e rm_X5_fewestForAll s m args below meth c 0 0 (MQ below (QI X 0 r M s.heap.size) args s 0 0 (AA X 0 s.heap.size)) 3 M 9 [(0, .ref (X.2.2 87)), (1, .int v1), (2, .int v2)] [] := by
  unfold f_X5_fewestForAll_L9 at he
  refine z_iload_n S dX5_fewestForAll_9 rfl 2 rfl ?_
  refine z_aload_n S dX5_fewestForAll_10 rfl 0 rfl ?_
  refine z_getI S fo_RX5_29 rfl ok_87 dX5_fewestForAll_11 ?_
  refine z_icmp_ge (tgt := 44) S he dX5_fewestForAll_14 (by decide) (fun he => ?_) (fun he => ?_)
  · refine z_lv (ks := [1]) rfl ?_
    exact hx _ (Option.some.inj he).symm
  · refine z_iload_n S dX5_fewestForAll_17 rfl 2 rfl ?_
    obtain ⟨r1, h9, he⟩ := bnd he
    refine z_cSI (As := [.int v2]) S cs_RX5_47 (K_J6_bitCount_0f7a4  h9) ⟨rfl, rfl⟩ ⟨Nat.le_of_ble_eq_true rfl, Nat.le_of_ble_eq_true rfl⟩ ⟨Nat.le_refl _, Nat.le_refl _⟩ rfl rfl (Nat.le_of_ble_eq_true rfl) dX5_fewestForAll_18 ?_
    refine z_iload_n S dX5_fewestForAll_21 rfl 1 rfl ?_
    obtain ⟨r2, h9, he⟩ := bnd he
    refine z_cSI (As := [.int v1]) S cs_RX5_47 (K_J6_bitCount_0f7a4  h9) ⟨rfl, rfl⟩ ⟨Nat.le_of_ble_eq_true rfl, Nat.le_of_ble_eq_true rfl⟩ ⟨Nat.le_refl _, Nat.le_refl _⟩ rfl rfl (Nat.le_of_ble_eq_true rfl) dX5_fewestForAll_22 ?_
    refine z_icmp_ge (tgt := 38) S he dX5_fewestForAll_25 (by decide) (fun he => ?_) (fun he => ?_)
    · refine z_iinc (v := (v2 + 1)) (lv' := [(0, .ref (X.2.2 87)), (1, .int v1), (2, .int (v2 + 1))]) S [1, 2, 0] 2 dX5_fewestForAll_38 rfl (by rfl) (by decide) rfl ?_
      refine z_goto (tgt := 9) S dX5_fewestForAll_41 (by decide) ?_
      refine z_lv (ks := [0, 1, 2]) rfl ?_
      exact hc _ (Option.some.inj he).symm
    · refine z_aload_n S dX5_fewestForAll_28 rfl 0 rfl ?_
      refine z_iload_n S dX5_fewestForAll_29 rfl 2 rfl ?_
      obtain ⟨r3, h9, he⟩ := bnd he
      refine z_cVI (As := [.int v2]) S cv_RX5_61 (K_X5_ringAllFor  h9) ok_87 (by decide) (q := (RX5, TX5, 5)) rfl rfl ⟨rfl, rfl⟩ ⟨Nat.le_of_ble_eq_true rfl, Nat.le_of_ble_eq_true rfl⟩ ⟨Nat.le_refl _, Nat.le_refl _⟩ rfl rfl (Nat.le_of_ble_eq_true rfl) dX5_fewestForAll_30 ?_
      refine z_ifb_eq (tgt := 38) S he dX5_fewestForAll_33 (by decide) (fun he => ?_) (fun he => ?_)
      · refine z_iinc (v := (v2 + 1)) (lv' := [(0, .ref (X.2.2 87)), (1, .int v1), (2, .int (v2 + 1))]) S [1, 2, 0] 2 dX5_fewestForAll_38 rfl (by rfl) (by decide) rfl ?_
        refine z_goto (tgt := 9) S dX5_fewestForAll_41 (by decide) ?_
        refine z_lv (ks := [0, 1, 2]) rfl ?_
        exact hc _ (Option.some.inj he).symm
      · refine z_iload_n S dX5_fewestForAll_36 rfl 2 rfl ?_
        refine z_istore_n (lv' := [(0, .ref (X.2.2 87)), (1, .int v2), (2, .int v2)]) S [1, 0, 2] dX5_fewestForAll_37 rfl (by decide) rfl ?_
        refine z_iinc (v := (v2 + 1)) (lv' := [(0, .ref (X.2.2 87)), (1, .int v2), (2, .int (v2 + 1))]) S [1, 2, 0] 2 dX5_fewestForAll_38 rfl (by rfl) (by decide) rfl ?_
        refine z_goto (tgt := 9) S dX5_fewestForAll_41 (by decide) ?_
        refine z_lv (ks := [0, 1, 2]) rfl ?_
        exact hc _ (Option.some.inj he).symm
set_option maxRecDepth 100000 in
set_option maxHeartbeats 4000000 in
theorem K_X5_fewestForAll {X : Cx} {l : Launch} {M : Mm} {r : Int32}  (he : f_X5_fewestForAll M  = some r) : KI X 0 l yX5_fewestForAll (wz yX5_fewestForAll cX5_fewestForAll 3 (some .int)) rm_X5_fewestForAll [.ref (X.2.2 87)] M r M := by
  intro sz
  refine K_of (Qc := (fun sz => QI X 0 r M sz)) (own := RX5) (lv0 := [(0, .ref (X.2.2 87))]) (by decide +kernel) rfl (Nat.le_of_ble_eq_true rfl) rfl (fun p e s m args below meth c S => ?_) sz
  · unfold f_X5_fewestForAll at he
    refine z_aload_n S dX5_fewestForAll_0 rfl 0 rfl ?_
    refine z_getI S fo_RX5_29 rfl ok_87 dX5_fewestForAll_1 ?_
    refine z_iconst (v := 1) S dX5_fewestForAll_4 (by decide) ?_
    refine z_isub S dX5_fewestForAll_5 ?_
    refine z_istore_n (lv' := [(0, .ref (X.2.2 87)), (1, .int ((gI M 87 4) - 1))]) S [1, 0] dX5_fewestForAll_6 rfl (by decide) rfl ?_
    refine z_iconst (v := 0) S dX5_fewestForAll_7 (by decide) ?_
    refine z_istore_n (lv' := [(0, .ref (X.2.2 87)), (1, .int ((gI M 87 4) - 1)), (2, .int 0)]) S [1, 2, 0] dX5_fewestForAll_8 rfl (by decide) rfl ?_
    obtain ⟨e_4, hl, he⟩ := bnd he
    have hX : Z X 0 p l e rm_X5_fewestForAll s m args below meth c 0 0 (MQ below (QI X 0 r M s.heap.size) args s 0 0 (AA X 0 s.heap.size)) 3 M 44 [(1, .int e_4)] [] := by
      refine z_iload_n S dX5_fewestForAll_44 rfl 0 rfl ?_
      exact z_iret S (⟨Option.some.inj he, rfl⟩) dX5_fewestForAll_45
    have hZ9 := loopZ (f := (fun a_4 => f_X5_fewestForAll_L9 M a_4.1 a_4.2)) (Zh := (fun a_4 => Z X 0 p l e rm_X5_fewestForAll s m args below meth c 0 0 (MQ below (QI X 0 r M s.heap.size) args s 0 0 (AA X 0 s.heap.size)) 3 M 9 [(0, .ref (X.2.2 87)), (1, .int a_4.1), (2, .int a_4.2)] [])) (fun a_4 x hb hc hr => p_X5_fewestForAll_L9 S  hb hc (fun b hxe => by rw [hr b hxe]; exact hX)) FU (((gI M 87 4) - 1), 0) hl
    exact hZ9
set_option maxRecDepth 100000 in
set_option maxHeartbeats 4000000 in
theorem p_X5_fewestTooMany_J4_32 {X : Cx} {p : Program} {l : Launch} {e : Env} {s : State} {m : MethodId} {args : Array Value} {below : List Frame} {meth : Method} {c : Code} (S : SB X 0 p s m args meth c cX5_fewestTooMany 4 (some .int) RX5) {M : Mm} {r : Int32} {v1 : Int32} {v2 : Int32} {t0 : Int32} {x : (Int32 × Int32) ⊕ Int32}  (he : f_X5_fewestTooMany_J4_32 M v1 v2 t0 = some x) (hc : ∀ b, x = .inl b → Z X 0 p l e rm_X5_fewestTooMany s m args below meth c 0 0 (MQ below (QI X 0 r M s.heap.size) args s 0 0 (AA X 0 s.heap.size)) 4 M 4 [(0, .ref (X.2.2 87)), (1, .int b.1), (2, .int b.2)] []) (hx : ∀ b, x = .inr b → Z X 0 p l e rm_X5_fewestTooMany s m args below meth c 0 0 (MQ below (QI X 0 r M s.heap.size) args s 0 0 (AA X 0 s.heap.size)) 4 M 53 [(1, .int b)] []) : Z X 0 p l e rm_X5_fewestTooMany s m args below meth c 0 0 (MQ below (QI X 0 r M s.heap.size) args s 0 0 (AA X 0 s.heap.size)) 4 M 32 [(0, .ref (X.2.2 87)), (1, .int v1), (2, .int v2)] [.int t0] := by
  unfold f_X5_fewestTooMany_J4_32 at he
  refine z_istore_n (lv' := [(0, .ref (X.2.2 87)), (1, .int v1), (2, .int v2), (3, .int t0)]) S [1, 2, 3, 0] dX5_fewestTooMany_32 rfl (by decide) rfl ?_
  refine z_iload_n S dX5_fewestTooMany_33 rfl 3 rfl ?_
  refine z_if_eq (tgt := 47) S he dX5_fewestTooMany_34 (by decide) (fun he => ?_) (fun he => ?_)
  · refine z_iinc (v := (v2 + 1)) (lv' := [(0, .ref (X.2.2 87)), (1, .int v1), (2, .int (v2 + 1)), (3, .int t0)]) S [1, 2, 0, 3] 2 dX5_fewestTooMany_47 rfl (by rfl) (by decide) rfl ?_
    refine z_goto (tgt := 4) S dX5_fewestTooMany_50 (by decide) ?_
    refine z_lv (ks := [0, 1, 2]) rfl ?_
    exact hc _ (Option.some.inj he).symm
  · refine z_aload_n S dX5_fewestTooMany_37 rfl 0 rfl ?_
    refine z_iload_n S dX5_fewestTooMany_38 rfl 2 rfl ?_
    obtain ⟨r1, h9, he⟩ := bnd he
    refine z_cVI (As := [.int v2]) S cv_RX5_53 (K_X5_tooMany  h9) ok_87 (by decide) (q := (RX5, TX5, 5)) rfl rfl ⟨rfl, rfl⟩ ⟨Nat.le_of_ble_eq_true rfl, Nat.le_of_ble_eq_true rfl⟩ ⟨Nat.le_refl _, Nat.le_refl _⟩ rfl rfl (Nat.le_of_ble_eq_true rfl) dX5_fewestTooMany_39 ?_
    refine z_ifb_eq (tgt := 47) S he dX5_fewestTooMany_42 (by decide) (fun he => ?_) (fun he => ?_)
    · refine z_iinc (v := (v2 + 1)) (lv' := [(0, .ref (X.2.2 87)), (1, .int v1), (2, .int (v2 + 1)), (3, .int t0)]) S [1, 2, 0, 3] 2 dX5_fewestTooMany_47 rfl (by rfl) (by decide) rfl ?_
      refine z_goto (tgt := 4) S dX5_fewestTooMany_50 (by decide) ?_
      refine z_lv (ks := [0, 1, 2]) rfl ?_
      exact hc _ (Option.some.inj he).symm
    · refine z_iload_n S dX5_fewestTooMany_45 rfl 2 rfl ?_
      refine z_istore_n (lv' := [(0, .ref (X.2.2 87)), (1, .int v2), (2, .int v2)]) S [1, 0, 2] dX5_fewestTooMany_46 rfl (by decide) rfl ?_
      refine z_iinc (v := (v2 + 1)) (lv' := [(0, .ref (X.2.2 87)), (1, .int v2), (2, .int (v2 + 1))]) S [1, 2, 0] 2 dX5_fewestTooMany_47 rfl (by rfl) (by decide) rfl ?_
      refine z_goto (tgt := 4) S dX5_fewestTooMany_50 (by decide) ?_
      refine z_lv (ks := [0, 1, 2]) rfl ?_
      exact hc _ (Option.some.inj he).symm
set_option maxRecDepth 100000 in
set_option maxHeartbeats 4000000 in
theorem p_X5_fewestTooMany_J4_27 {X : Cx} {p : Program} {l : Launch} {e : Env} {s : State} {m : MethodId} {args : Array Value} {below : List Frame} {meth : Method} {c : Code} (S : SB X 0 p s m args meth c cX5_fewestTooMany 4 (some .int) RX5) {M : Mm} {r : Int32} {v1 : Int32} {v2 : Int32} {x : (Int32 × Int32) ⊕ Int32}  (he : f_X5_fewestTooMany_J4_27 M v1 v2 = some x) (hc : ∀ b, x = .inl b → Z X 0 p l e rm_X5_fewestTooMany s m args below meth c 0 0 (MQ below (QI X 0 r M s.heap.size) args s 0 0 (AA X 0 s.heap.size)) 4 M 4 [(0, .ref (X.2.2 87)), (1, .int b.1), (2, .int b.2)] []) (hx : ∀ b, x = .inr b → Z X 0 p l e rm_X5_fewestTooMany s m args below meth c 0 0 (MQ below (QI X 0 r M s.heap.size) args s 0 0 (AA X 0 s.heap.size)) 4 M 53 [(1, .int b)] []) : Z X 0 p l e rm_X5_fewestTooMany s m args below meth c 0 0 (MQ below (QI X 0 r M s.heap.size) args s 0 0 (AA X 0 s.heap.size)) 4 M 27 [(0, .ref (X.2.2 87)), (1, .int v1), (2, .int v2)] [] := by
  unfold f_X5_fewestTooMany_J4_27 at he
  refine z_iconst (v := 1) S dX5_fewestTooMany_27 (by decide) ?_
  refine z_goto (tgt := 32) S dX5_fewestTooMany_28 (by decide) ?_
  exact p_X5_fewestTooMany_J4_32 S  he hc hx
set_option maxRecDepth 100000 in
set_option maxHeartbeats 4000000 in
theorem p_X5_fewestTooMany_L4 {X : Cx} {p : Program} {l : Launch} {e : Env} {s : State} {m : MethodId} {args : Array Value} {below : List Frame} {meth : Method} {c : Code} (S : SB X 0 p s m args meth c cX5_fewestTooMany 4 (some .int) RX5) {M : Mm} {r : Int32} {v1 : Int32} {v2 : Int32} {x : (Int32 × Int32) ⊕ Int32}  (he : f_X5_fewestTooMany_L4 M v1 v2 = some x) (hc : ∀ b, x = .inl b → Z X 0 p l e rm_X5_fewestTooMany s m args below meth c 0 0 (MQ below (QI X 0 r M s.heap.size) args s 0 0 (AA X 0 s.heap.size)) 4 M 4 [(0, .ref (X.2.2 87)), (1, .int b.1), (2, .int b.2)] []) (hx : ∀ b, x = .inr b → Z X 0 p l e rm_X5_fewestTooMany s m args below meth c 0 0 (MQ below (QI X 0 r M s.heap.size) args s 0 0 (AA X 0 s.heap.size)) 4 M 53 [(1, .int b)] []) : Z X 0 p l e rm_X5_fewestTooMany s m args below meth c 0 0 (MQ below (QI X 0 r M s.heap.size) args s 0 0 (AA X 0 s.heap.size)) 4 M 4 [(0, .ref (X.2.2 87)), (1, .int v1), (2, .int v2)] [] := by
  unfold f_X5_fewestTooMany_L4 at he
  refine z_iload_n S dX5_fewestTooMany_4 rfl 2 rfl ?_
  refine z_aload_n S dX5_fewestTooMany_5 rfl 0 rfl ?_
  refine z_getI S fo_RX5_29 rfl ok_87 dX5_fewestTooMany_6 ?_
  refine z_icmp_ge (tgt := 53) S he dX5_fewestTooMany_9 (by decide) (fun he => ?_) (fun he => ?_)
  · refine z_lv (ks := [1]) rfl ?_
    exact hx _ (Option.some.inj he).symm
  · refine z_iload_n S dX5_fewestTooMany_12 rfl 1 rfl ?_
    refine z_if_eq (tgt := 27) S he dX5_fewestTooMany_13 (by decide) (fun he => ?_) (fun he => ?_)
    · exact p_X5_fewestTooMany_J4_27 S  he hc hx
    · refine z_iload_n S dX5_fewestTooMany_16 rfl 2 rfl ?_
      obtain ⟨r2, h9, he⟩ := bnd he
      refine z_cSI (As := [.int v2]) S cs_RX5_47 (K_J6_bitCount_0f7a4  h9) ⟨rfl, rfl⟩ ⟨Nat.le_of_ble_eq_true rfl, Nat.le_of_ble_eq_true rfl⟩ ⟨Nat.le_refl _, Nat.le_refl _⟩ rfl rfl (Nat.le_of_ble_eq_true rfl) dX5_fewestTooMany_17 ?_
      refine z_iload_n S dX5_fewestTooMany_20 rfl 1 rfl ?_
      obtain ⟨r3, h9, he⟩ := bnd he
      refine z_cSI (As := [.int v1]) S cs_RX5_47 (K_J6_bitCount_0f7a4  h9) ⟨rfl, rfl⟩ ⟨Nat.le_of_ble_eq_true rfl, Nat.le_of_ble_eq_true rfl⟩ ⟨Nat.le_refl _, Nat.le_refl _⟩ rfl rfl (Nat.le_of_ble_eq_true rfl) dX5_fewestTooMany_21 ?_
      refine z_icmp_ge (tgt := 31) S he dX5_fewestTooMany_24 (by decide) (fun he => ?_) (fun he => ?_)
      · refine z_iconst (v := 0) S dX5_fewestTooMany_31 (by decide) ?_
        exact p_X5_fewestTooMany_J4_32 S  he hc hx
      · exact p_X5_fewestTooMany_J4_27 S  he hc hx
set_option maxRecDepth 100000 in
set_option maxHeartbeats 4000000 in
theorem K_X5_fewestTooMany {X : Cx} {l : Launch} {M : Mm} {r : Int32}  (he : f_X5_fewestTooMany M  = some r) : KI X 0 l yX5_fewestTooMany (wz yX5_fewestTooMany cX5_fewestTooMany 4 (some .int)) rm_X5_fewestTooMany [.ref (X.2.2 87)] M r M := by
  intro sz
  refine K_of (Qc := (fun sz => QI X 0 r M sz)) (own := RX5) (lv0 := [(0, .ref (X.2.2 87))]) (by decide +kernel) rfl (Nat.le_of_ble_eq_true rfl) rfl (fun p e s m args below meth c S => ?_) sz
  · unfold f_X5_fewestTooMany at he
    refine z_iconst (v := 0) S dX5_fewestTooMany_0 (by decide) ?_
    refine z_istore_n (lv' := [(0, .ref (X.2.2 87)), (1, .int 0)]) S [1, 0] dX5_fewestTooMany_1 rfl (by decide) rfl ?_
    refine z_iconst (v := 1) S dX5_fewestTooMany_2 (by decide) ?_
    refine z_istore_n (lv' := [(0, .ref (X.2.2 87)), (1, .int 0), (2, .int 1)]) S [1, 2, 0] dX5_fewestTooMany_3 rfl (by decide) rfl ?_
    obtain ⟨e_4, hl, he⟩ := bnd he
    have hX : Z X 0 p l e rm_X5_fewestTooMany s m args below meth c 0 0 (MQ below (QI X 0 r M s.heap.size) args s 0 0 (AA X 0 s.heap.size)) 4 M 53 [(1, .int e_4)] [] := by
      refine z_iload_n S dX5_fewestTooMany_53 rfl 0 rfl ?_
      exact z_iret S (⟨Option.some.inj he, rfl⟩) dX5_fewestTooMany_54
    have hZ9 := loopZ (f := (fun a_4 => f_X5_fewestTooMany_L4 M a_4.1 a_4.2)) (Zh := (fun a_4 => Z X 0 p l e rm_X5_fewestTooMany s m args below meth c 0 0 (MQ below (QI X 0 r M s.heap.size) args s 0 0 (AA X 0 s.heap.size)) 4 M 4 [(0, .ref (X.2.2 87)), (1, .int a_4.1), (2, .int a_4.2)] [])) (fun a_4 x hb hc hr => p_X5_fewestTooMany_L4 S  hb hc (fun b hxe => by rw [hr b hxe]; exact hX)) FU (0, 1) hl
    exact hZ9
set_option maxRecDepth 100000 in
set_option maxHeartbeats 4000000 in
theorem p_X5_mostAtOnce_L4 {X : Cx} {p : Program} {l : Launch} {e : Env} {s : State} {m : MethodId} {args : Array Value} {below : List Frame} {meth : Method} {c : Code} (S : SB X 0 p s m args meth c cX5_mostAtOnce 4 (some .int) RX5) {M : Mm} {r : Int32} {v1 : Int32} {v2 : Int32} {x : (Int32 × Int32) ⊕ Int32}  (he : f_X5_mostAtOnce_L4 M v1 v2 = some x) (hc : ∀ b, x = .inl b → Z X 0 p l e rm_X5_mostAtOnce s m args below meth c 0 0 (MQ below (QI X 0 r M s.heap.size) args s 0 0 (AA X 0 s.heap.size)) 4 M 4 [(0, .ref (X.2.2 87)), (1, .int b.1), (2, .int b.2)] []) (hx : ∀ b, x = .inr b → Z X 0 p l e rm_X5_mostAtOnce s m args below meth c 0 0 (MQ below (QI X 0 r M s.heap.size) args s 0 0 (AA X 0 s.heap.size)) 4 M 35 [(1, .int b)] []) : Z X 0 p l e rm_X5_mostAtOnce s m args below meth c 0 0 (MQ below (QI X 0 r M s.heap.size) args s 0 0 (AA X 0 s.heap.size)) 4 M 4 [(0, .ref (X.2.2 87)), (1, .int v1), (2, .int v2)] [] := by
  unfold f_X5_mostAtOnce_L4 at he
  refine z_iload_n S dX5_mostAtOnce_4 rfl 2 rfl ?_
  refine z_aload_n S dX5_mostAtOnce_5 rfl 0 rfl ?_
  refine z_getI S fo_RX5_28 rfl ok_87 dX5_mostAtOnce_6 ?_
  refine z_icmp_ge (tgt := 35) S he dX5_mostAtOnce_9 (by decide) (fun he => ?_) (fun he => ?_)
  · refine z_lv (ks := [1]) rfl ?_
    exact hx _ (Option.some.inj he).symm
  · refine z_iload_n S dX5_mostAtOnce_12 rfl 1 rfl ?_
    refine z_iconst (v := 1) S dX5_mostAtOnce_13 (by decide) ?_
    refine z_iload_n S dX5_mostAtOnce_14 rfl 2 rfl ?_
    refine z_ishl S dX5_mostAtOnce_15 ?_
    refine z_ior S dX5_mostAtOnce_16 ?_
    obtain ⟨x1, ex1, he⟩ := bnd he
    rw [Option.some.inj ex1]
    refine z_istore_n (lv' := [(0, .ref (X.2.2 87)), (1, .int v1), (2, .int v2), (3, .int x1)]) S [1, 2, 3, 0] dX5_mostAtOnce_17 rfl (by decide) rfl ?_
    refine z_aload_n S dX5_mostAtOnce_18 rfl 0 rfl ?_
    refine z_iload_n S dX5_mostAtOnce_19 rfl 3 rfl ?_
    refine z_iload_n S dX5_mostAtOnce_20 rfl 2 rfl ?_
    obtain ⟨r2, h9, he⟩ := bnd he
    refine z_cVI (As := [.int x1, .int v2]) S cv_RX5_57 (K_X5_anyTooMany  h9) ok_87 (by decide) (q := (RX5, TX5, 5)) rfl rfl ⟨rfl, rfl⟩ ⟨Nat.le_of_ble_eq_true rfl, Nat.le_of_ble_eq_true rfl⟩ ⟨Nat.le_refl _, Nat.le_refl _⟩ rfl rfl (Nat.le_of_ble_eq_true rfl) dX5_mostAtOnce_21 ?_
    refine z_ifb_ne (tgt := 29) S he dX5_mostAtOnce_24 (by decide) (fun he => ?_) (fun he => ?_)
    · refine z_iinc (v := (v2 + 1)) (lv' := [(0, .ref (X.2.2 87)), (1, .int v1), (2, .int (v2 + 1)), (3, .int x1)]) S [1, 2, 0, 3] 2 dX5_mostAtOnce_29 rfl (by rfl) (by decide) rfl ?_
      refine z_goto (tgt := 4) S dX5_mostAtOnce_32 (by decide) ?_
      refine z_lv (ks := [0, 1, 2]) rfl ?_
      exact hc _ (Option.some.inj he).symm
    · refine z_iload_n S dX5_mostAtOnce_27 rfl 3 rfl ?_
      refine z_istore_n (lv' := [(0, .ref (X.2.2 87)), (1, .int x1), (2, .int v2)]) S [1, 0, 2] dX5_mostAtOnce_28 rfl (by decide) rfl ?_
      refine z_iinc (v := (v2 + 1)) (lv' := [(0, .ref (X.2.2 87)), (1, .int x1), (2, .int (v2 + 1))]) S [1, 2, 0] 2 dX5_mostAtOnce_29 rfl (by rfl) (by decide) rfl ?_
      refine z_goto (tgt := 4) S dX5_mostAtOnce_32 (by decide) ?_
      refine z_lv (ks := [0, 1, 2]) rfl ?_
      exact hc _ (Option.some.inj he).symm
set_option maxRecDepth 100000 in
set_option maxHeartbeats 4000000 in
theorem K_X5_mostAtOnce {X : Cx} {l : Launch} {M : Mm} {r : Int32}  (he : f_X5_mostAtOnce M  = some r) : KI X 0 l yX5_mostAtOnce (wz yX5_mostAtOnce cX5_mostAtOnce 4 (some .int)) rm_X5_mostAtOnce [.ref (X.2.2 87)] M r M := by
  intro sz
  refine K_of (Qc := (fun sz => QI X 0 r M sz)) (own := RX5) (lv0 := [(0, .ref (X.2.2 87))]) (by decide +kernel) rfl (Nat.le_of_ble_eq_true rfl) rfl (fun p e s m args below meth c S => ?_) sz
  · unfold f_X5_mostAtOnce at he
    refine z_iconst (v := 0) S dX5_mostAtOnce_0 (by decide) ?_
    refine z_istore_n (lv' := [(0, .ref (X.2.2 87)), (1, .int 0)]) S [1, 0] dX5_mostAtOnce_1 rfl (by decide) rfl ?_
    refine z_iconst (v := 0) S dX5_mostAtOnce_2 (by decide) ?_
    refine z_istore_n (lv' := [(0, .ref (X.2.2 87)), (1, .int 0), (2, .int 0)]) S [1, 2, 0] dX5_mostAtOnce_3 rfl (by decide) rfl ?_
    obtain ⟨e_3, hl, he⟩ := bnd he
    have hX : Z X 0 p l e rm_X5_mostAtOnce s m args below meth c 0 0 (MQ below (QI X 0 r M s.heap.size) args s 0 0 (AA X 0 s.heap.size)) 4 M 35 [(1, .int e_3)] [] := by
      refine z_iload_n S dX5_mostAtOnce_35 rfl 0 rfl ?_
      exact z_iret S (⟨Option.some.inj he, rfl⟩) dX5_mostAtOnce_36
    have hZ9 := loopZ (f := (fun a_3 => f_X5_mostAtOnce_L4 M a_3.1 a_3.2)) (Zh := (fun a_3 => Z X 0 p l e rm_X5_mostAtOnce s m args below meth c 0 0 (MQ below (QI X 0 r M s.heap.size) args s 0 0 (AA X 0 s.heap.size)) 4 M 4 [(0, .ref (X.2.2 87)), (1, .int a_3.1), (2, .int a_3.2)] [])) (fun a_3 x hb hc hr => p_X5_mostAtOnce_L4 S  hb hc (fun b hxe => by rw [hr b hxe]; exact hX)) FU (0, 0) hl
    exact hZ9
set_option maxRecDepth 100000 in
set_option maxHeartbeats 4000000 in
theorem p_X5_take_L28 {X : Cx} {p : Program} {l : Launch} {e : Env} {s : State} {m : MethodId} {args : Array Value} {below : List Frame} {meth : Method} {c : Code} (S : SB X 0 p s m args meth c cX5_take 4 none RX5) {M : Mm} {N : Mm} {v1 : Nat} {v3 : Int32} {x : (Mm × Int32) ⊕ Mm} (h_v1 : OK 0 v1 4) (he : f_X5_take_L28 M v1 v3 = some x) (hc : ∀ b, x = .inl b → Z X 0 p l e rm_X5_take s m args below meth c 0 0 (MQ below (QV X 0 N s.heap.size) args s 0 0 (AA X 0 s.heap.size)) 4 b.1 28 [(0, .ref (X.2.2 87)), (1, .ref (X.2.2 v1)), (2, .ref (X.2.2 82)), (3, .int b.2)] []) (hx : ∀ b, x = .inr b → Z X 0 p l e rm_X5_take s m args below meth c 0 0 (MQ below (QV X 0 N s.heap.size) args s 0 0 (AA X 0 s.heap.size)) 4 b 72 [] []) : Z X 0 p l e rm_X5_take s m args below meth c 0 0 (MQ below (QV X 0 N s.heap.size) args s 0 0 (AA X 0 s.heap.size)) 4 M 28 [(0, .ref (X.2.2 87)), (1, .ref (X.2.2 v1)), (2, .ref (X.2.2 82)), (3, .int v3)] [] := by
  unfold f_X5_take_L28 at he
  refine z_iload_n S dX5_take_28 rfl 3 rfl ?_
  refine z_aload_n S dX5_take_29 rfl 0 rfl ?_
  refine z_getI S fo_RX5_24 rfl ok_87 dX5_take_30 ?_
  refine z_icmp_ge (tgt := 72) S he dX5_take_33 (by decide) (fun he => ?_) (fun he => ?_)
  · refine z_lv (ks := []) rfl ?_
    exact hx _ (Option.some.inj he).symm
  · refine z_aload_n S dX5_take_36 rfl 0 rfl ?_
    refine z_getF (j := 88) S fo_RX5_9 1 rfl rfl ok_87 dX5_take_37 ?_
    refine z_iload_n S dX5_take_40 rfl 3 rfl ?_
    refine z_aload_n S dX5_take_41 rfl 2 rfl ?_
    refine z_getF (j := 84) S fo_RX5_32 2 rfl rfl ok_82 dX5_take_42 ?_
    refine z_iload_n S dX5_take_45 rfl 3 rfl ?_
    refine z_cNI (As := [.ref (X.2.2 84), .int v3]) S cn_RX5_35 (Kt_X9_at ok_84 rfl) ⟨rfl, rfl⟩ ⟨Nat.le_of_ble_eq_true rfl, Nat.le_of_ble_eq_true rfl⟩ ⟨Nat.le_refl _, Nat.le_refl _⟩ rfl rfl (Nat.le_of_ble_eq_true rfl) dX5_take_46 ?_
    obtain ⟨M4, h9, he⟩ := bnd he
    refine z_cNV (As := [.ref (X.2.2 88), .int v3, .int (t_X9_at M 84 v3)]) S cn_RX5_39 (Kt_X9_put ok_88 (Option.some.inj h9)) ⟨rfl, rfl⟩ ⟨Nat.le_of_ble_eq_true rfl, Nat.le_of_ble_eq_true rfl⟩ ⟨Nat.le_refl _, Nat.le_refl _⟩ rfl rfl (Nat.le_of_ble_eq_true rfl) dX5_take_49 ?_
    refine z_aload_n S dX5_take_52 rfl 0 rfl ?_
    refine z_getF (j := 89) S fo_RX5_15 2 rfl rfl ok_87 dX5_take_53 ?_
    refine z_iload_n S dX5_take_56 rfl 3 rfl ?_
    refine z_aload_n S dX5_take_57 rfl 1 rfl ?_
    refine z_iload_n S dX5_take_58 rfl 3 rfl ?_
    refine z_iconst (v := 2) S dX5_take_59 (by decide) ?_
    refine z_cVI (As := [.int v3, .int 2]) S cv_RX5_43 (K_X4_ofThing h_v1 rfl) h_v1 (by decide) (q := (RX4, TX4, 10)) rfl rfl ⟨rfl, rfl⟩ ⟨Nat.le_of_ble_eq_true rfl, Nat.le_of_ble_eq_true rfl⟩ ⟨Nat.le_refl _, Nat.le_refl _⟩ rfl rfl (Nat.le_of_ble_eq_true rfl) dX5_take_60 ?_
    obtain ⟨M5, h9, he⟩ := bnd he
    refine z_cNV (As := [.ref (X.2.2 89), .int v3, .int (f_X4_ofThing M4 v1 v3 2)]) S cn_RX5_39 (Kt_X9_put ok_89 (Option.some.inj h9)) ⟨rfl, rfl⟩ ⟨Nat.le_of_ble_eq_true rfl, Nat.le_of_ble_eq_true rfl⟩ ⟨Nat.le_refl _, Nat.le_refl _⟩ rfl rfl (Nat.le_of_ble_eq_true rfl) dX5_take_63 ?_
    refine z_iinc (v := (v3 + 1)) (lv' := [(0, .ref (X.2.2 87)), (1, .ref (X.2.2 v1)), (2, .ref (X.2.2 82)), (3, .int (v3 + 1))]) S [1, 2, 3, 0] 3 dX5_take_66 rfl (by rfl) (by decide) rfl ?_
    refine z_goto (tgt := 28) S dX5_take_69 (by decide) ?_
    refine z_lv (ks := [0, 1, 2, 3]) rfl ?_
    exact hc _ (Option.some.inj he).symm
set_option maxRecDepth 100000 in
set_option maxHeartbeats 4000000 in
theorem K_X5_take {X : Cx} {l : Launch} {M : Mm} {a1 : Nat} {N : Mm} (h_a1 : OK 0 a1 4) (he : f_X5_take M a1 = some N) : KV X 0 l yX5_take (wz yX5_take cX5_take 4 none) rm_X5_take [.ref (X.2.2 87), .ref (X.2.2 a1), .ref (X.2.2 82)] M N := by
  intro sz
  refine K_of (Qc := (fun sz => QV X 0 N sz)) (own := RX5) (lv0 := [(0, .ref (X.2.2 87)), (1, .ref (X.2.2 a1)), (2, .ref (X.2.2 82))]) (by decide +kernel) rfl (Nat.le_of_ble_eq_true rfl) rfl (fun p e s m args below meth c S => ?_) sz
  · unfold f_X5_take at he
    refine z_aload_n S dX5_take_0 rfl 0 rfl ?_
    refine z_aload_n S dX5_take_1 rfl 1 rfl ?_
    refine z_getI S fo_RX5_18 rfl h_a1 dX5_take_2 ?_
    refine z_putIb S fo_RX5_24p rfl ok_87 rfl rfl he dX5_take_5 (fun M1 he => ?_)
    refine z_aload_n S dX5_take_8 rfl 0 rfl ?_
    refine z_aload_n S dX5_take_9 rfl 1 rfl ?_
    refine z_getI S fo_RX5_25 rfl h_a1 dX5_take_10 ?_
    refine z_putIb S fo_RX5_28p rfl ok_87 rfl rfl he dX5_take_13 (fun M2 he => ?_)
    refine z_aload_n S dX5_take_16 rfl 0 rfl ?_
    refine z_iconst (v := 1) S dX5_take_17 (by decide) ?_
    refine z_aload_n S dX5_take_18 rfl 0 rfl ?_
    refine z_getI S fo_RX5_28 rfl ok_87 dX5_take_19 ?_
    refine z_ishl S dX5_take_22 ?_
    refine z_putIb S fo_RX5_29p rfl ok_87 rfl rfl he dX5_take_23 (fun M3 he => ?_)
    refine z_iconst (v := 0) S dX5_take_26 (by decide) ?_
    refine z_istore_n (lv' := [(0, .ref (X.2.2 87)), (1, .ref (X.2.2 a1)), (2, .ref (X.2.2 82)), (3, .int 0)]) S [1, 2, 3, 0] dX5_take_27 rfl (by decide) rfl ?_
    obtain ⟨e_6, hl, he⟩ := bnd he
    have hX : Z X 0 p l e rm_X5_take s m args below meth c 0 0 (MQ below (QV X 0 N s.heap.size) args s 0 0 (AA X 0 s.heap.size)) 4 e_6 72 [] [] := by
      exact z_vret S (Option.some.inj he) dX5_take_72
    have hZ9 := loopZ (f := (fun a_6 => f_X5_take_L28 a_6.1 a1 a_6.2)) (Zh := (fun a_6 => Z X 0 p l e rm_X5_take s m args below meth c 0 0 (MQ below (QV X 0 N s.heap.size) args s 0 0 (AA X 0 s.heap.size)) 4 a_6.1 28 [(0, .ref (X.2.2 87)), (1, .ref (X.2.2 a1)), (2, .ref (X.2.2 82)), (3, .int a_6.2)] [])) (fun a_6 x hb hc hr => p_X5_take_L28 S h_a1 hb hc (fun b hxe => by rw [hr b hxe]; exact hX)) FU (M3, 0) hl
    exact hZ9
set_option maxRecDepth 100000 in
set_option maxHeartbeats 4000000 in
theorem p_X6_envied_L4 {X : Cx} {p : Program} {l : Launch} {e : Env} {s : State} {m : MethodId} {args : Array Value} {below : List Frame} {meth : Method} {c : Code} (S : SB X 0 p s m args meth c cX6_envied 6 (some .int) RX6) {M : Mm} {r : Int32} {v1 : Int32} {v2 : Int32} {v3 : Int32} {x : (Int32 × Int32) ⊕ Int32}  (he : f_X6_envied_L4 M v1 v2 v3 = some x) (hc : ∀ b, x = .inl b → Z X 0 p l e rm_X6_envied s m args below meth c 0 0 (MQ below (QI X 0 r M s.heap.size) args s 0 0 (AA X 0 s.heap.size)) 6 M 4 [(0, .ref (X.2.2 82)), (1, .int v1), (2, .int b.1), (3, .int b.2)] []) (hx : ∀ b, x = .inr b → Z X 0 p l e rm_X6_envied s m args below meth c 0 0 (MQ below (QI X 0 r M s.heap.size) args s 0 0 (AA X 0 s.heap.size)) 6 M 39 [(0, .ref (X.2.2 82)), (1, .int v1), (2, .int b)] []) : Z X 0 p l e rm_X6_envied s m args below meth c 0 0 (MQ below (QI X 0 r M s.heap.size) args s 0 0 (AA X 0 s.heap.size)) 6 M 4 [(0, .ref (X.2.2 82)), (1, .int v1), (2, .int v2), (3, .int v3)] [] := by
  unfold f_X6_envied_L4 at he
  refine z_iload_n S dX6_envied_4 rfl 3 rfl ?_
  refine z_bipush (v := 10) S dX6_envied_5 (by decide) ?_
  refine z_icmp_ge (tgt := 39) S he dX6_envied_7 (by decide) (fun he => ?_) (fun he => ?_)
  · refine z_lv (ks := [0, 1, 2]) rfl ?_
    exact hx _ (Option.some.inj he).symm
  · refine z_aload_n S dX6_envied_10 rfl 0 rfl ?_
    refine z_getF (j := 85) S fo_RX6_18 3 rfl rfl ok_82 dX6_envied_11 ?_
    refine z_iload_n S dX6_envied_14 rfl 3 rfl ?_
    refine z_cNI (As := [.ref (X.2.2 85), .int v3]) S cn_RX6_55 (Kt_X9_at ok_85 rfl) ⟨rfl, rfl⟩ ⟨Nat.le_of_ble_eq_true rfl, Nat.le_of_ble_eq_true rfl⟩ ⟨Nat.le_refl _, Nat.le_refl _⟩ rfl rfl (Nat.le_of_ble_eq_true rfl) dX6_envied_15 ?_
    refine z_iload_n S dX6_envied_18 rfl 1 rfl ?_
    refine z_icmp_ne (tgt := 33) S he dX6_envied_19 (by decide) (fun he => ?_) (fun he => ?_)
    · refine z_iinc (v := (v3 + 1)) (lv' := [(0, .ref (X.2.2 82)), (1, .int v1), (2, .int v2), (3, .int (v3 + 1))]) S [1, 2, 3, 0] 3 dX6_envied_33 rfl (by rfl) (by decide) rfl ?_
      refine z_goto (tgt := 4) S dX6_envied_36 (by decide) ?_
      refine z_lv (ks := [0, 1, 2, 3]) rfl ?_
      exact hc _ (Option.some.inj he).symm
    · refine z_iload_n S dX6_envied_22 rfl 2 rfl ?_
      refine z_aload_n S dX6_envied_23 rfl 0 rfl ?_
      refine z_iload_n S dX6_envied_24 rfl 1 rfl ?_
      refine z_iload_n S dX6_envied_25 rfl 3 rfl ?_
      refine z_cVI (As := [.int v1, .int v3]) S cv_RX6_47 (K_X6_likes  rfl) ok_82 (by decide) (q := (RX6, TX6, 4)) rfl rfl ⟨rfl, rfl⟩ ⟨Nat.le_of_ble_eq_true rfl, Nat.le_of_ble_eq_true rfl⟩ ⟨Nat.le_refl _, Nat.le_refl _⟩ rfl rfl (Nat.le_of_ble_eq_true rfl) dX6_envied_26 ?_
      refine z_mmax S cm_RX6_109 (Nat.le_of_ble_eq_true rfl) (Nat.le_of_ble_eq_true rfl) ⟨Nat.le_refl _, Nat.le_refl _⟩ dX6_envied_29 ?_
      obtain ⟨x1, ex1, he⟩ := bnd he
      rw [Option.some.inj ex1]
      refine z_istore_n (lv' := [(0, .ref (X.2.2 82)), (1, .int v1), (2, .int x1), (3, .int v3)]) S [1, 2, 0, 3] dX6_envied_32 rfl (by decide) rfl ?_
      refine z_iinc (v := (v3 + 1)) (lv' := [(0, .ref (X.2.2 82)), (1, .int v1), (2, .int x1), (3, .int (v3 + 1))]) S [1, 2, 3, 0] 3 dX6_envied_33 rfl (by rfl) (by decide) rfl ?_
      refine z_goto (tgt := 4) S dX6_envied_36 (by decide) ?_
      refine z_lv (ks := [0, 1, 2, 3]) rfl ?_
      exact hc _ (Option.some.inj he).symm
set_option maxRecDepth 100000 in
set_option maxHeartbeats 4000000 in
theorem p_X6_envied_J44_82 {X : Cx} {p : Program} {l : Launch} {e : Env} {s : State} {m : MethodId} {args : Array Value} {below : List Frame} {meth : Method} {c : Code} (S : SB X 0 p s m args meth c cX6_envied 6 (some .int) RX6) {M : Mm} {r : Int32} {v1 : Int32} {v2 : Int32} {v3 : Int32} {v4 : Int32} {t0 : Int32} {x : (Int32 × Int32) ⊕ Int32}  (he : f_X6_envied_J44_82 M v1 v2 v3 v4 t0 = some x) (hc : ∀ b, x = .inl b → Z X 0 p l e rm_X6_envied s m args below meth c 0 0 (MQ below (QI X 0 r M s.heap.size) args s 0 0 (AA X 0 s.heap.size)) 6 M 44 [(0, .ref (X.2.2 82)), (1, .int v1), (2, .int v2), (3, .int b.1), (4, .int b.2)] []) (hx : ∀ b, x = .inr b → Z X 0 p l e rm_X6_envied s m args below meth c 0 0 (MQ below (QI X 0 r M s.heap.size) args s 0 0 (AA X 0 s.heap.size)) 6 M 123 [(3, .int b)] []) : Z X 0 p l e rm_X6_envied s m args below meth c 0 0 (MQ below (QI X 0 r M s.heap.size) args s 0 0 (AA X 0 s.heap.size)) 6 M 82 [(0, .ref (X.2.2 82)), (1, .int v1), (2, .int v2), (3, .int v3), (4, .int v4)] [.int t0] := by
  unfold f_X6_envied_J44_82 at he
  refine z_istore (lv' := [(0, .ref (X.2.2 82)), (1, .int v1), (2, .int v2), (3, .int v3), (4, .int v4), (5, .int t0)]) S [1, 2, 3, 4, 5, 0] dX6_envied_82 (by decide) rfl ?_
  refine z_iload S dX6_envied_84 5 rfl ?_
  refine z_if_eq (tgt := 117) S he dX6_envied_86 (by decide) (fun he => ?_) (fun he => ?_)
  · refine z_iinc (v := (v4 + 1)) (lv' := [(0, .ref (X.2.2 82)), (1, .int v1), (2, .int v2), (3, .int v3), (4, .int (v4 + 1)), (5, .int t0)]) S [1, 2, 3, 4, 0, 5] 4 dX6_envied_117 rfl (by rfl) (by decide) rfl ?_
    refine z_goto (tgt := 44) S dX6_envied_120 (by decide) ?_
    refine z_lv (ks := [0, 1, 2, 3, 4]) rfl ?_
    exact hc _ (Option.some.inj he).symm
  · refine z_aload_n S dX6_envied_89 rfl 0 rfl ?_
    refine z_iload_n S dX6_envied_90 rfl 1 rfl ?_
    refine z_iload S dX6_envied_91 4 rfl ?_
    refine z_cVI (As := [.int v1, .int v4]) S cv_RX6_76 (K_X6_calls  rfl) ok_82 (by decide) (q := (RX6, TX6, 4)) rfl rfl ⟨rfl, rfl⟩ ⟨Nat.le_of_ble_eq_true rfl, Nat.le_of_ble_eq_true rfl⟩ ⟨Nat.le_refl _, Nat.le_refl _⟩ rfl rfl (Nat.le_of_ble_eq_true rfl) dX6_envied_93 ?_
    refine z_ifb_eq (tgt := 117) S he dX6_envied_96 (by decide) (fun he => ?_) (fun he => ?_)
    · refine z_iinc (v := (v4 + 1)) (lv' := [(0, .ref (X.2.2 82)), (1, .int v1), (2, .int v2), (3, .int v3), (4, .int (v4 + 1)), (5, .int t0)]) S [1, 2, 3, 4, 0, 5] 4 dX6_envied_117 rfl (by rfl) (by decide) rfl ?_
      refine z_goto (tgt := 44) S dX6_envied_120 (by decide) ?_
      refine z_lv (ks := [0, 1, 2, 3, 4]) rfl ?_
      exact hc _ (Option.some.inj he).symm
    · refine z_aload_n S dX6_envied_99 rfl 0 rfl ?_
      refine z_iload_n S dX6_envied_100 rfl 1 rfl ?_
      refine z_iload S dX6_envied_101 4 rfl ?_
      refine z_cVI (As := [.int v1, .int v4]) S cv_RX6_47 (K_X6_likes  rfl) ok_82 (by decide) (q := (RX6, TX6, 4)) rfl rfl ⟨rfl, rfl⟩ ⟨Nat.le_of_ble_eq_true rfl, Nat.le_of_ble_eq_true rfl⟩ ⟨Nat.le_refl _, Nat.le_refl _⟩ rfl rfl (Nat.le_of_ble_eq_true rfl) dX6_envied_103 ?_
      refine z_iload_n S dX6_envied_106 rfl 2 rfl ?_
      refine z_icmp_le (tgt := 117) S he dX6_envied_107 (by decide) (fun he => ?_) (fun he => ?_)
      · refine z_iinc (v := (v4 + 1)) (lv' := [(0, .ref (X.2.2 82)), (1, .int v1), (2, .int v2), (3, .int v3), (4, .int (v4 + 1)), (5, .int t0)]) S [1, 2, 3, 4, 0, 5] 4 dX6_envied_117 rfl (by rfl) (by decide) rfl ?_
        refine z_goto (tgt := 44) S dX6_envied_120 (by decide) ?_
        refine z_lv (ks := [0, 1, 2, 3, 4]) rfl ?_
        exact hc _ (Option.some.inj he).symm
      · refine z_iload_n S dX6_envied_110 rfl 3 rfl ?_
        refine z_iconst (v := 1) S dX6_envied_111 (by decide) ?_
        refine z_iload S dX6_envied_112 4 rfl ?_
        refine z_ishl S dX6_envied_114 ?_
        refine z_ior S dX6_envied_115 ?_
        obtain ⟨x3, ex3, he⟩ := bnd he
        rw [Option.some.inj ex3]
        refine z_istore_n (lv' := [(0, .ref (X.2.2 82)), (1, .int v1), (2, .int v2), (3, .int x3), (4, .int v4)]) S [1, 2, 3, 0, 4] dX6_envied_116 rfl (by decide) rfl ?_
        refine z_iinc (v := (v4 + 1)) (lv' := [(0, .ref (X.2.2 82)), (1, .int v1), (2, .int v2), (3, .int x3), (4, .int (v4 + 1))]) S [1, 2, 3, 4, 0] 4 dX6_envied_117 rfl (by rfl) (by decide) rfl ?_
        refine z_goto (tgt := 44) S dX6_envied_120 (by decide) ?_
        refine z_lv (ks := [0, 1, 2, 3, 4]) rfl ?_
        exact hc _ (Option.some.inj he).symm
set_option maxRecDepth 100000 in
set_option maxHeartbeats 4000000 in
theorem p_X6_envied_J44_81 {X : Cx} {p : Program} {l : Launch} {e : Env} {s : State} {m : MethodId} {args : Array Value} {below : List Frame} {meth : Method} {c : Code} (S : SB X 0 p s m args meth c cX6_envied 6 (some .int) RX6) {M : Mm} {r : Int32} {v1 : Int32} {v2 : Int32} {v3 : Int32} {v4 : Int32} {x : (Int32 × Int32) ⊕ Int32}  (he : f_X6_envied_J44_81 M v1 v2 v3 v4 = some x) (hc : ∀ b, x = .inl b → Z X 0 p l e rm_X6_envied s m args below meth c 0 0 (MQ below (QI X 0 r M s.heap.size) args s 0 0 (AA X 0 s.heap.size)) 6 M 44 [(0, .ref (X.2.2 82)), (1, .int v1), (2, .int v2), (3, .int b.1), (4, .int b.2)] []) (hx : ∀ b, x = .inr b → Z X 0 p l e rm_X6_envied s m args below meth c 0 0 (MQ below (QI X 0 r M s.heap.size) args s 0 0 (AA X 0 s.heap.size)) 6 M 123 [(3, .int b)] []) : Z X 0 p l e rm_X6_envied s m args below meth c 0 0 (MQ below (QI X 0 r M s.heap.size) args s 0 0 (AA X 0 s.heap.size)) 6 M 81 [(0, .ref (X.2.2 82)), (1, .int v1), (2, .int v2), (3, .int v3), (4, .int v4)] [] := by
  unfold f_X6_envied_J44_81 at he
  refine z_iconst (v := 0) S dX6_envied_81 (by decide) ?_
  exact p_X6_envied_J44_82 S  he hc hx
set_option maxRecDepth 100000 in
set_option maxHeartbeats 4000000 in
theorem p_X6_envied_L44 {X : Cx} {p : Program} {l : Launch} {e : Env} {s : State} {m : MethodId} {args : Array Value} {below : List Frame} {meth : Method} {c : Code} (S : SB X 0 p s m args meth c cX6_envied 6 (some .int) RX6) {M : Mm} {r : Int32} {v1 : Int32} {v2 : Int32} {v3 : Int32} {v4 : Int32} {x : (Int32 × Int32) ⊕ Int32}  (he : f_X6_envied_L44 M v1 v2 v3 v4 = some x) (hc : ∀ b, x = .inl b → Z X 0 p l e rm_X6_envied s m args below meth c 0 0 (MQ below (QI X 0 r M s.heap.size) args s 0 0 (AA X 0 s.heap.size)) 6 M 44 [(0, .ref (X.2.2 82)), (1, .int v1), (2, .int v2), (3, .int b.1), (4, .int b.2)] []) (hx : ∀ b, x = .inr b → Z X 0 p l e rm_X6_envied s m args below meth c 0 0 (MQ below (QI X 0 r M s.heap.size) args s 0 0 (AA X 0 s.heap.size)) 6 M 123 [(3, .int b)] []) : Z X 0 p l e rm_X6_envied s m args below meth c 0 0 (MQ below (QI X 0 r M s.heap.size) args s 0 0 (AA X 0 s.heap.size)) 6 M 44 [(0, .ref (X.2.2 82)), (1, .int v1), (2, .int v2), (3, .int v3), (4, .int v4)] [] := by
  unfold f_X6_envied_L44 at he
  refine z_iload S dX6_envied_44 4 rfl ?_
  refine z_bipush (v := 10) S dX6_envied_46 (by decide) ?_
  refine z_icmp_ge (tgt := 123) S he dX6_envied_48 (by decide) (fun he => ?_) (fun he => ?_)
  · refine z_lv (ks := [3]) rfl ?_
    exact hx _ (Option.some.inj he).symm
  · refine z_aload_n S dX6_envied_51 rfl 0 rfl ?_
    refine z_getF (j := 85) S fo_RX6_18 3 rfl rfl ok_82 dX6_envied_52 ?_
    refine z_iload S dX6_envied_55 4 rfl ?_
    refine z_cNI (As := [.ref (X.2.2 85), .int v4]) S cn_RX6_55 (Kt_X9_at ok_85 rfl) ⟨rfl, rfl⟩ ⟨Nat.le_of_ble_eq_true rfl, Nat.le_of_ble_eq_true rfl⟩ ⟨Nat.le_refl _, Nat.le_refl _⟩ rfl rfl (Nat.le_of_ble_eq_true rfl) dX6_envied_57 ?_
    refine z_iconst (v := (-1)) S dX6_envied_60 (by decide) ?_
    refine z_icmp_eq (tgt := 81) S he dX6_envied_61 (by decide) (fun he => ?_) (fun he => ?_)
    · exact p_X6_envied_J44_81 S  he hc hx
    · refine z_aload_n S dX6_envied_64 rfl 0 rfl ?_
      refine z_getF (j := 85) S fo_RX6_18 3 rfl rfl ok_82 dX6_envied_65 ?_
      refine z_iload S dX6_envied_68 4 rfl ?_
      refine z_cNI (As := [.ref (X.2.2 85), .int v4]) S cn_RX6_55 (Kt_X9_at ok_85 rfl) ⟨rfl, rfl⟩ ⟨Nat.le_of_ble_eq_true rfl, Nat.le_of_ble_eq_true rfl⟩ ⟨Nat.le_refl _, Nat.le_refl _⟩ rfl rfl (Nat.le_of_ble_eq_true rfl) dX6_envied_70 ?_
      refine z_iload_n S dX6_envied_73 rfl 1 rfl ?_
      refine z_icmp_eq (tgt := 81) S he dX6_envied_74 (by decide) (fun he => ?_) (fun he => ?_)
      · exact p_X6_envied_J44_81 S  he hc hx
      · refine z_iconst (v := 1) S dX6_envied_77 (by decide) ?_
        refine z_goto (tgt := 82) S dX6_envied_78 (by decide) ?_
        exact p_X6_envied_J44_82 S  he hc hx
set_option maxRecDepth 100000 in
set_option maxHeartbeats 4000000 in
theorem K_X6_envied {X : Cx} {l : Launch} {M : Mm} {a1 : Int32} {r : Int32}  (he : f_X6_envied M a1 = some r) : KI X 0 l yX6_envied (wz yX6_envied cX6_envied 6 (some .int)) rm_X6_envied [.ref (X.2.2 82), .int a1] M r M := by
  intro sz
  refine K_of (Qc := (fun sz => QI X 0 r M sz)) (own := RX6) (lv0 := [(0, .ref (X.2.2 82)), (1, .int a1)]) (by decide +kernel) rfl (Nat.le_of_ble_eq_true rfl) rfl (fun p e s m args below meth c S => ?_) sz
  · unfold f_X6_envied at he
    refine z_iconst (v := 0) S dX6_envied_0 (by decide) ?_
    refine z_istore_n (lv' := [(0, .ref (X.2.2 82)), (1, .int a1), (2, .int 0)]) S [1, 2, 0] dX6_envied_1 rfl (by decide) rfl ?_
    refine z_iconst (v := 0) S dX6_envied_2 (by decide) ?_
    refine z_istore_n (lv' := [(0, .ref (X.2.2 82)), (1, .int a1), (2, .int 0), (3, .int 0)]) S [1, 2, 3, 0] dX6_envied_3 rfl (by decide) rfl ?_
    obtain ⟨e_2, hl, he⟩ := bnd he
    have hX : Z X 0 p l e rm_X6_envied s m args below meth c 0 0 (MQ below (QI X 0 r M s.heap.size) args s 0 0 (AA X 0 s.heap.size)) 6 M 39 [(0, .ref (X.2.2 82)), (1, .int a1), (2, .int e_2)] [] := by
      refine z_iconst (v := 0) S dX6_envied_39 (by decide) ?_
      refine z_istore_n (lv' := [(0, .ref (X.2.2 82)), (1, .int a1), (2, .int e_2), (3, .int 0)]) S [1, 2, 3, 0] dX6_envied_40 rfl (by decide) rfl ?_
      refine z_iconst (v := 0) S dX6_envied_41 (by decide) ?_
      refine z_istore (lv' := [(0, .ref (X.2.2 82)), (1, .int a1), (2, .int e_2), (3, .int 0), (4, .int 0)]) S [1, 2, 3, 4, 0] dX6_envied_42 (by decide) rfl ?_
      obtain ⟨e_4, hl, he⟩ := bnd he
      have hX : Z X 0 p l e rm_X6_envied s m args below meth c 0 0 (MQ below (QI X 0 r M s.heap.size) args s 0 0 (AA X 0 s.heap.size)) 6 M 123 [(3, .int e_4)] [] := by
        refine z_iload_n S dX6_envied_123 rfl 0 rfl ?_
        exact z_iret S (⟨Option.some.inj he, rfl⟩) dX6_envied_124
      have hZ9 := loopZ (f := (fun a_4 => f_X6_envied_L44 M a1 e_2 a_4.1 a_4.2)) (Zh := (fun a_4 => Z X 0 p l e rm_X6_envied s m args below meth c 0 0 (MQ below (QI X 0 r M s.heap.size) args s 0 0 (AA X 0 s.heap.size)) 6 M 44 [(0, .ref (X.2.2 82)), (1, .int a1), (2, .int e_2), (3, .int a_4.1), (4, .int a_4.2)] [])) (fun a_4 x hb hc hr => p_X6_envied_L44 S  hb hc (fun b hxe => by rw [hr b hxe]; exact hX)) FU (0, 0) hl
      exact hZ9
    have hZ9 := loopZ (f := (fun a_2 => f_X6_envied_L4 M a1 a_2.1 a_2.2)) (Zh := (fun a_2 => Z X 0 p l e rm_X6_envied s m args below meth c 0 0 (MQ below (QI X 0 r M s.heap.size) args s 0 0 (AA X 0 s.heap.size)) 6 M 4 [(0, .ref (X.2.2 82)), (1, .int a1), (2, .int a_2.1), (3, .int a_2.2)] [])) (fun a_2 x hb hc hr => p_X6_envied_L4 S  hb hc (fun b hxe => by rw [hr b hxe]; exact hX)) FU (0, 0) hl
    exact hZ9
set_option maxRecDepth 100000 in
set_option maxHeartbeats 4000000 in
theorem p_X6_firstToRing_J9_95 {X : Cx} {p : Program} {l : Launch} {e : Env} {s : State} {m : MethodId} {args : Array Value} {below : List Frame} {meth : Method} {c : Code} (S : SB X 0 p s m args meth c cX6_firstToRing 8 (some .int) RX6) {M : Mm} {r : Int32} {v1 : Nat} {v2 : Int32} {v5 : Int32} {v6 : Int32} {x : (Int32 × Int32 × Int32) ⊕ Int32} (h_v1 : OK 0 v1 4) (he : f_X6_firstToRing_J9_95 M v1 v2 v5 v6 = some x) (hc : ∀ b, x = .inl b → Z X 0 p l e rm_X6_firstToRing s m args below meth c 0 0 (MQ below (QI X 0 r M s.heap.size) args s 0 0 (AA X 0 s.heap.size)) 8 M 9 [(0, .ref (X.2.2 82)), (1, .ref (X.2.2 v1)), (2, .int v2), (3, .int b.1), (4, .int b.2.1), (5, .int b.2.2)] []) (hx : ∀ b, x = .inr b → Z X 0 p l e rm_X6_firstToRing s m args below meth c 0 0 (MQ below (QI X 0 r M s.heap.size) args s 0 0 (AA X 0 s.heap.size)) 8 M 108 [(3, .int b)] []) : Z X 0 p l e rm_X6_firstToRing s m args below meth c 0 0 (MQ below (QI X 0 r M s.heap.size) args s 0 0 (AA X 0 s.heap.size)) 8 M 95 [(0, .ref (X.2.2 82)), (1, .ref (X.2.2 v1)), (2, .int v2), (5, .int v5), (6, .int v6)] [] := by
  unfold f_X6_firstToRing_J9_95 at he
  refine z_iload S dX6_firstToRing_95 3 rfl ?_
  refine z_istore_n (lv' := [(0, .ref (X.2.2 82)), (1, .ref (X.2.2 v1)), (2, .int v2), (3, .int v5), (5, .int v5), (6, .int v6)]) S [1, 2, 3, 0, 4, 5] dX6_firstToRing_97 rfl (by decide) rfl ?_
  refine z_iload S dX6_firstToRing_98 5 rfl ?_
  refine z_istore (lv' := [(0, .ref (X.2.2 82)), (1, .ref (X.2.2 v1)), (2, .int v2), (3, .int v5), (4, .int v6), (5, .int v5)]) S [1, 2, 3, 4, 0, 5] dX6_firstToRing_100 (by decide) rfl ?_
  refine z_iinc (v := (v5 + 1)) (lv' := [(0, .ref (X.2.2 82)), (1, .ref (X.2.2 v1)), (2, .int v2), (3, .int v5), (4, .int v6), (5, .int (v5 + 1))]) S [1, 2, 3, 4, 5, 0] 5 dX6_firstToRing_102 rfl (by rfl) (by decide) rfl ?_
  refine z_goto (tgt := 9) S dX6_firstToRing_105 (by decide) ?_
  refine z_lv (ks := [0, 1, 2, 3, 4, 5]) rfl ?_
  exact hc _ (Option.some.inj he).symm
set_option maxRecDepth 100000 in
set_option maxHeartbeats 4000000 in
theorem p_X6_firstToRing_J9_81 {X : Cx} {p : Program} {l : Launch} {e : Env} {s : State} {m : MethodId} {args : Array Value} {below : List Frame} {meth : Method} {c : Code} (S : SB X 0 p s m args meth c cX6_firstToRing 8 (some .int) RX6) {M : Mm} {r : Int32} {v1 : Nat} {v2 : Int32} {v3 : Int32} {v4 : Int32} {v5 : Int32} {v6 : Int32} {t0 : Int32} {x : (Int32 × Int32 × Int32) ⊕ Int32} (h_v1 : OK 0 v1 4) (he : f_X6_firstToRing_J9_81 M v1 v2 v3 v4 v5 v6 t0 = some x) (hc : ∀ b, x = .inl b → Z X 0 p l e rm_X6_firstToRing s m args below meth c 0 0 (MQ below (QI X 0 r M s.heap.size) args s 0 0 (AA X 0 s.heap.size)) 8 M 9 [(0, .ref (X.2.2 82)), (1, .ref (X.2.2 v1)), (2, .int v2), (3, .int b.1), (4, .int b.2.1), (5, .int b.2.2)] []) (hx : ∀ b, x = .inr b → Z X 0 p l e rm_X6_firstToRing s m args below meth c 0 0 (MQ below (QI X 0 r M s.heap.size) args s 0 0 (AA X 0 s.heap.size)) 8 M 108 [(3, .int b)] []) : Z X 0 p l e rm_X6_firstToRing s m args below meth c 0 0 (MQ below (QI X 0 r M s.heap.size) args s 0 0 (AA X 0 s.heap.size)) 8 M 81 [(0, .ref (X.2.2 82)), (1, .ref (X.2.2 v1)), (2, .int v2), (3, .int v3), (4, .int v4), (5, .int v5), (6, .int v6)] [.int t0] := by
  unfold f_X6_firstToRing_J9_81 at he
  refine z_istore (lv' := [(0, .ref (X.2.2 82)), (1, .ref (X.2.2 v1)), (2, .int v2), (3, .int v3), (4, .int v4), (5, .int v5), (6, .int v6), (7, .int t0)]) S [1, 2, 3, 4, 5, 6, 7, 0] dX6_firstToRing_81 (by decide) rfl ?_
  refine z_iload S dX6_firstToRing_83 6 rfl ?_
  refine z_iload S dX6_firstToRing_85 4 rfl ?_
  refine z_icmp_lt (tgt := 95) S he dX6_firstToRing_87 (by decide) (fun he => ?_) (fun he => ?_)
  · refine z_lv (ks := [0, 1, 2, 5, 6]) rfl ?_
    exact p_X6_firstToRing_J9_95 S h_v1 he hc hx
  · refine z_iload S dX6_firstToRing_90 7 rfl ?_
    refine z_if_eq (tgt := 102) S he dX6_firstToRing_92 (by decide) (fun he => ?_) (fun he => ?_)
    · refine z_iinc (v := (v5 + 1)) (lv' := [(0, .ref (X.2.2 82)), (1, .ref (X.2.2 v1)), (2, .int v2), (3, .int v3), (4, .int v4), (5, .int (v5 + 1)), (6, .int v6), (7, .int t0)]) S [1, 2, 3, 4, 5, 0, 6, 7] 5 dX6_firstToRing_102 rfl (by rfl) (by decide) rfl ?_
      refine z_goto (tgt := 9) S dX6_firstToRing_105 (by decide) ?_
      refine z_lv (ks := [0, 1, 2, 3, 4, 5]) rfl ?_
      exact hc _ (Option.some.inj he).symm
    · refine z_lv (ks := [0, 1, 2, 5, 6]) rfl ?_
      exact p_X6_firstToRing_J9_95 S h_v1 he hc hx
set_option maxRecDepth 100000 in
set_option maxHeartbeats 4000000 in
theorem p_X6_firstToRing_J9_80 {X : Cx} {p : Program} {l : Launch} {e : Env} {s : State} {m : MethodId} {args : Array Value} {below : List Frame} {meth : Method} {c : Code} (S : SB X 0 p s m args meth c cX6_firstToRing 8 (some .int) RX6) {M : Mm} {r : Int32} {v1 : Nat} {v2 : Int32} {v3 : Int32} {v4 : Int32} {v5 : Int32} {v6 : Int32} {x : (Int32 × Int32 × Int32) ⊕ Int32} (h_v1 : OK 0 v1 4) (he : f_X6_firstToRing_J9_80 M v1 v2 v3 v4 v5 v6 = some x) (hc : ∀ b, x = .inl b → Z X 0 p l e rm_X6_firstToRing s m args below meth c 0 0 (MQ below (QI X 0 r M s.heap.size) args s 0 0 (AA X 0 s.heap.size)) 8 M 9 [(0, .ref (X.2.2 82)), (1, .ref (X.2.2 v1)), (2, .int v2), (3, .int b.1), (4, .int b.2.1), (5, .int b.2.2)] []) (hx : ∀ b, x = .inr b → Z X 0 p l e rm_X6_firstToRing s m args below meth c 0 0 (MQ below (QI X 0 r M s.heap.size) args s 0 0 (AA X 0 s.heap.size)) 8 M 108 [(3, .int b)] []) : Z X 0 p l e rm_X6_firstToRing s m args below meth c 0 0 (MQ below (QI X 0 r M s.heap.size) args s 0 0 (AA X 0 s.heap.size)) 8 M 80 [(0, .ref (X.2.2 82)), (1, .ref (X.2.2 v1)), (2, .int v2), (3, .int v3), (4, .int v4), (5, .int v5), (6, .int v6)] [] := by
  unfold f_X6_firstToRing_J9_80 at he
  refine z_iconst (v := 0) S dX6_firstToRing_80 (by decide) ?_
  exact p_X6_firstToRing_J9_81 S h_v1 he hc hx
set_option maxRecDepth 100000 in
set_option maxHeartbeats 4000000 in
theorem p_X6_firstToRing_L9 {X : Cx} {p : Program} {l : Launch} {e : Env} {s : State} {m : MethodId} {args : Array Value} {below : List Frame} {meth : Method} {c : Code} (S : SB X 0 p s m args meth c cX6_firstToRing 8 (some .int) RX6) {M : Mm} {r : Int32} {v1 : Nat} {v2 : Int32} {v3 : Int32} {v4 : Int32} {v5 : Int32} {x : (Int32 × Int32 × Int32) ⊕ Int32} (h_v1 : OK 0 v1 4) (he : f_X6_firstToRing_L9 M v1 v2 v3 v4 v5 = some x) (hc : ∀ b, x = .inl b → Z X 0 p l e rm_X6_firstToRing s m args below meth c 0 0 (MQ below (QI X 0 r M s.heap.size) args s 0 0 (AA X 0 s.heap.size)) 8 M 9 [(0, .ref (X.2.2 82)), (1, .ref (X.2.2 v1)), (2, .int v2), (3, .int b.1), (4, .int b.2.1), (5, .int b.2.2)] []) (hx : ∀ b, x = .inr b → Z X 0 p l e rm_X6_firstToRing s m args below meth c 0 0 (MQ below (QI X 0 r M s.heap.size) args s 0 0 (AA X 0 s.heap.size)) 8 M 108 [(3, .int b)] []) : Z X 0 p l e rm_X6_firstToRing s m args below meth c 0 0 (MQ below (QI X 0 r M s.heap.size) args s 0 0 (AA X 0 s.heap.size)) 8 M 9 [(0, .ref (X.2.2 82)), (1, .ref (X.2.2 v1)), (2, .int v2), (3, .int v3), (4, .int v4), (5, .int v5)] [] := by
  unfold f_X6_firstToRing_L9 at he
  refine z_iload S dX6_firstToRing_9 5 rfl ?_
  refine z_aload_n S dX6_firstToRing_11 rfl 1 rfl ?_
  refine z_getI S fo_RX6_24 rfl h_v1 dX6_firstToRing_12 ?_
  refine z_icmp_ge (tgt := 108) S he dX6_firstToRing_15 (by decide) (fun he => ?_) (fun he => ?_)
  · refine z_lv (ks := [3]) rfl ?_
    exact hx _ (Option.some.inj he).symm
  · refine z_aload_n S dX6_firstToRing_18 rfl 0 rfl ?_
    refine z_getF (j := 86) S fo_RX6_21 4 rfl rfl ok_82 dX6_firstToRing_19 ?_
    refine z_iload S dX6_firstToRing_22 5 rfl ?_
    refine z_cNI (As := [.ref (X.2.2 86), .int v5]) S cn_RX6_55 (Kt_X9_at ok_86 rfl) ⟨rfl, rfl⟩ ⟨Nat.le_of_ble_eq_true rfl, Nat.le_of_ble_eq_true rfl⟩ ⟨Nat.le_refl _, Nat.le_refl _⟩ rfl rfl (Nat.le_of_ble_eq_true rfl) dX6_firstToRing_24 ?_
    refine z_if_le (tgt := 102) S he dX6_firstToRing_27 (by decide) (fun he => ?_) (fun he => ?_)
    · refine z_iinc (v := (v5 + 1)) (lv' := [(0, .ref (X.2.2 82)), (1, .ref (X.2.2 v1)), (2, .int v2), (3, .int v3), (4, .int v4), (5, .int (v5 + 1))]) S [1, 2, 3, 4, 5, 0] 5 dX6_firstToRing_102 rfl (by rfl) (by decide) rfl ?_
      refine z_goto (tgt := 9) S dX6_firstToRing_105 (by decide) ?_
      refine z_lv (ks := [0, 1, 2, 3, 4, 5]) rfl ?_
      exact hc _ (Option.some.inj he).symm
    · refine z_aload_n S dX6_firstToRing_30 rfl 0 rfl ?_
      refine z_iload S dX6_firstToRing_31 5 rfl ?_
      refine z_iload_n S dX6_firstToRing_33 rfl 2 rfl ?_
      refine z_cVI (As := [.int v5, .int v2]) S cv_RX6_76 (K_X6_calls  rfl) ok_82 (by decide) (q := (RX6, TX6, 4)) rfl rfl ⟨rfl, rfl⟩ ⟨Nat.le_of_ble_eq_true rfl, Nat.le_of_ble_eq_true rfl⟩ ⟨Nat.le_refl _, Nat.le_refl _⟩ rfl rfl (Nat.le_of_ble_eq_true rfl) dX6_firstToRing_34 ?_
      refine z_ifb_eq (tgt := 102) S he dX6_firstToRing_37 (by decide) (fun he => ?_) (fun he => ?_)
      · refine z_iinc (v := (v5 + 1)) (lv' := [(0, .ref (X.2.2 82)), (1, .ref (X.2.2 v1)), (2, .int v2), (3, .int v3), (4, .int v4), (5, .int (v5 + 1))]) S [1, 2, 3, 4, 5, 0] 5 dX6_firstToRing_102 rfl (by rfl) (by decide) rfl ?_
        refine z_goto (tgt := 9) S dX6_firstToRing_105 (by decide) ?_
        refine z_lv (ks := [0, 1, 2, 3, 4, 5]) rfl ?_
        exact hc _ (Option.some.inj he).symm
      · refine z_aload_n S dX6_firstToRing_40 rfl 1 rfl ?_
        refine z_aload_n S dX6_firstToRing_41 rfl 1 rfl ?_
        refine z_iload S dX6_firstToRing_42 5 rfl ?_
        refine z_iconst (v := 0) S dX6_firstToRing_44 (by decide) ?_
        refine z_cVI (As := [.int v5, .int 0]) S cv_RX6_65 (K_X4_ofThing h_v1 rfl) h_v1 (by decide) (q := (RX4, TX4, 10)) rfl rfl ⟨rfl, rfl⟩ ⟨Nat.le_of_ble_eq_true rfl, Nat.le_of_ble_eq_true rfl⟩ ⟨Nat.le_refl _, Nat.le_refl _⟩ rfl rfl (Nat.le_of_ble_eq_true rfl) dX6_firstToRing_45 ?_
        refine z_cVI (As := [.int (f_X4_ofThing M v1 v5 0)]) S cv_RX6_79 (Kt_X4_stepOf h_v1 rfl) h_v1 (by decide) (q := (RX4, TX4, 10)) rfl rfl ⟨rfl, rfl⟩ ⟨Nat.le_of_ble_eq_true rfl, Nat.le_of_ble_eq_true rfl⟩ ⟨Nat.le_refl _, Nat.le_refl _⟩ rfl rfl (Nat.le_of_ble_eq_true rfl) dX6_firstToRing_48 ?_
        obtain ⟨x1, ex1, he⟩ := bnd he
        rw [Option.some.inj ex1]
        refine z_istore (lv' := [(0, .ref (X.2.2 82)), (1, .ref (X.2.2 v1)), (2, .int v2), (3, .int v3), (4, .int v4), (5, .int v5), (6, .int x1)]) S [1, 2, 3, 4, 5, 6, 0] dX6_firstToRing_51 (by decide) rfl ?_
        refine z_iload S dX6_firstToRing_53 6 rfl ?_
        refine z_iload S dX6_firstToRing_55 4 rfl ?_
        refine z_icmp_ne (tgt := 80) S he dX6_firstToRing_57 (by decide) (fun he => ?_) (fun he => ?_)
        · exact p_X6_firstToRing_J9_80 S h_v1 he hc hx
        · refine z_aload_n S dX6_firstToRing_60 rfl 0 rfl ?_
          refine z_iload S dX6_firstToRing_61 5 rfl ?_
          refine z_iload_n S dX6_firstToRing_63 rfl 2 rfl ?_
          refine z_cVI (As := [.int v5, .int v2]) S cv_RX6_47 (K_X6_likes  rfl) ok_82 (by decide) (q := (RX6, TX6, 4)) rfl rfl ⟨rfl, rfl⟩ ⟨Nat.le_of_ble_eq_true rfl, Nat.le_of_ble_eq_true rfl⟩ ⟨Nat.le_refl _, Nat.le_refl _⟩ rfl rfl (Nat.le_of_ble_eq_true rfl) dX6_firstToRing_64 ?_
          refine z_aload_n S dX6_firstToRing_67 rfl 0 rfl ?_
          refine z_iload_n S dX6_firstToRing_68 rfl 3 rfl ?_
          refine z_iload_n S dX6_firstToRing_69 rfl 2 rfl ?_
          refine z_cVI (As := [.int v3, .int v2]) S cv_RX6_47 (K_X6_likes  rfl) ok_82 (by decide) (q := (RX6, TX6, 4)) rfl rfl ⟨rfl, rfl⟩ ⟨Nat.le_of_ble_eq_true rfl, Nat.le_of_ble_eq_true rfl⟩ ⟨Nat.le_refl _, Nat.le_refl _⟩ rfl rfl (Nat.le_of_ble_eq_true rfl) dX6_firstToRing_70 ?_
          refine z_icmp_le (tgt := 80) S he dX6_firstToRing_73 (by decide) (fun he => ?_) (fun he => ?_)
          · exact p_X6_firstToRing_J9_80 S h_v1 he hc hx
          · refine z_iconst (v := 1) S dX6_firstToRing_76 (by decide) ?_
            refine z_goto (tgt := 81) S dX6_firstToRing_77 (by decide) ?_
            exact p_X6_firstToRing_J9_81 S h_v1 he hc hx
set_option maxRecDepth 100000 in
set_option maxHeartbeats 4000000 in
theorem K_X6_firstToRing {X : Cx} {l : Launch} {M : Mm} {a1 : Nat} {a2 : Int32} {r : Int32} (h_a1 : OK 0 a1 4) (he : f_X6_firstToRing M a1 a2 = some r) : KI X 0 l yX6_firstToRing (wz yX6_firstToRing cX6_firstToRing 8 (some .int)) rm_X6_firstToRing [.ref (X.2.2 82), .ref (X.2.2 a1), .int a2] M r M := by
  intro sz
  refine K_of (Qc := (fun sz => QI X 0 r M sz)) (own := RX6) (lv0 := [(0, .ref (X.2.2 82)), (1, .ref (X.2.2 a1)), (2, .int a2)]) (by decide +kernel) rfl (Nat.le_of_ble_eq_true rfl) rfl (fun p e s m args below meth c S => ?_) sz
  · unfold f_X6_firstToRing at he
    refine z_iconst (v := (-1)) S dX6_firstToRing_0 (by decide) ?_
    refine z_istore_n (lv' := [(0, .ref (X.2.2 82)), (1, .ref (X.2.2 a1)), (2, .int a2), (3, .int (-1))]) S [1, 2, 3, 0] dX6_firstToRing_1 rfl (by decide) rfl ?_
    refine z_bipush (v := 20) S dX6_firstToRing_2 (by decide) ?_
    refine z_istore (lv' := [(0, .ref (X.2.2 82)), (1, .ref (X.2.2 a1)), (2, .int a2), (3, .int (-1)), (4, .int 20)]) S [1, 2, 3, 4, 0] dX6_firstToRing_4 (by decide) rfl ?_
    refine z_iconst (v := 0) S dX6_firstToRing_6 (by decide) ?_
    refine z_istore (lv' := [(0, .ref (X.2.2 82)), (1, .ref (X.2.2 a1)), (2, .int a2), (3, .int (-1)), (4, .int 20), (5, .int 0)]) S [1, 2, 3, 4, 5, 0] dX6_firstToRing_7 (by decide) rfl ?_
    obtain ⟨e_2, hl, he⟩ := bnd he
    have hX : Z X 0 p l e rm_X6_firstToRing s m args below meth c 0 0 (MQ below (QI X 0 r M s.heap.size) args s 0 0 (AA X 0 s.heap.size)) 8 M 108 [(3, .int e_2)] [] := by
      refine z_iload_n S dX6_firstToRing_108 rfl 0 rfl ?_
      exact z_iret S (⟨Option.some.inj he, rfl⟩) dX6_firstToRing_109
    have hZ9 := loopZ (f := (fun a_2 => f_X6_firstToRing_L9 M a1 a2 a_2.1 a_2.2.1 a_2.2.2)) (Zh := (fun a_2 => Z X 0 p l e rm_X6_firstToRing s m args below meth c 0 0 (MQ below (QI X 0 r M s.heap.size) args s 0 0 (AA X 0 s.heap.size)) 8 M 9 [(0, .ref (X.2.2 82)), (1, .ref (X.2.2 a1)), (2, .int a2), (3, .int a_2.1), (4, .int a_2.2.1), (5, .int a_2.2.2)] [])) (fun a_2 x hb hc hr => p_X6_firstToRing_L9 S h_a1 hb hc (fun b hxe => by rw [hr b hxe]; exact hX)) FU ((-1), 20, 0) hl
    exact hZ9
set_option maxRecDepth 100000 in
set_option maxHeartbeats 4000000 in
theorem p_X6_hadAtAll_L4 {X : Cx} {p : Program} {l : Launch} {e : Env} {s : State} {m : MethodId} {args : Array Value} {below : List Frame} {meth : Method} {c : Code} (S : SB X 0 p s m args meth c cX6_hadAtAll 3 (some .int) RX6) {M : Mm} {r : Int32} {v1 : Int32} {v2 : Int32} {x : (Int32 × Int32) ⊕ Int32}  (he : f_X6_hadAtAll_L4 M v1 v2 = some x) (hc : ∀ b, x = .inl b → Z X 0 p l e rm_X6_hadAtAll s m args below meth c 0 0 (MQ below (QI X 0 r M s.heap.size) args s 0 0 (AA X 0 s.heap.size)) 3 M 4 [(0, .ref (X.2.2 82)), (1, .int b.1), (2, .int b.2)] []) (hx : ∀ b, x = .inr b → Z X 0 p l e rm_X6_hadAtAll s m args below meth c 0 0 (MQ below (QI X 0 r M s.heap.size) args s 0 0 (AA X 0 s.heap.size)) 3 M 34 [(1, .int b)] []) : Z X 0 p l e rm_X6_hadAtAll s m args below meth c 0 0 (MQ below (QI X 0 r M s.heap.size) args s 0 0 (AA X 0 s.heap.size)) 3 M 4 [(0, .ref (X.2.2 82)), (1, .int v1), (2, .int v2)] [] := by
  unfold f_X6_hadAtAll_L4 at he
  refine z_iload_n S dX6_hadAtAll_4 rfl 2 rfl ?_
  refine z_bipush (v := 10) S dX6_hadAtAll_5 (by decide) ?_
  refine z_icmp_ge (tgt := 34) S he dX6_hadAtAll_7 (by decide) (fun he => ?_) (fun he => ?_)
  · refine z_lv (ks := [1]) rfl ?_
    exact hx _ (Option.some.inj he).symm
  · refine z_aload_n S dX6_hadAtAll_10 rfl 0 rfl ?_
    refine z_getF (j := 85) S fo_RX6_18 3 rfl rfl ok_82 dX6_hadAtAll_11 ?_
    refine z_iload_n S dX6_hadAtAll_14 rfl 2 rfl ?_
    refine z_cNI (As := [.ref (X.2.2 85), .int v2]) S cn_RX6_55 (Kt_X9_at ok_85 rfl) ⟨rfl, rfl⟩ ⟨Nat.le_of_ble_eq_true rfl, Nat.le_of_ble_eq_true rfl⟩ ⟨Nat.le_refl _, Nat.le_refl _⟩ rfl rfl (Nat.le_of_ble_eq_true rfl) dX6_hadAtAll_15 ?_
    refine z_iconst (v := (-1)) S dX6_hadAtAll_18 (by decide) ?_
    refine z_icmp_eq (tgt := 28) S he dX6_hadAtAll_19 (by decide) (fun he => ?_) (fun he => ?_)
    · refine z_iinc (v := (v2 + 1)) (lv' := [(0, .ref (X.2.2 82)), (1, .int v1), (2, .int (v2 + 1))]) S [1, 2, 0] 2 dX6_hadAtAll_28 rfl (by rfl) (by decide) rfl ?_
      refine z_goto (tgt := 4) S dX6_hadAtAll_31 (by decide) ?_
      refine z_lv (ks := [0, 1, 2]) rfl ?_
      exact hc _ (Option.some.inj he).symm
    · refine z_iload_n S dX6_hadAtAll_22 rfl 1 rfl ?_
      refine z_iconst (v := 1) S dX6_hadAtAll_23 (by decide) ?_
      refine z_iload_n S dX6_hadAtAll_24 rfl 2 rfl ?_
      refine z_ishl S dX6_hadAtAll_25 ?_
      refine z_ior S dX6_hadAtAll_26 ?_
      obtain ⟨x1, ex1, he⟩ := bnd he
      rw [Option.some.inj ex1]
      refine z_istore_n (lv' := [(0, .ref (X.2.2 82)), (1, .int x1), (2, .int v2)]) S [1, 0, 2] dX6_hadAtAll_27 rfl (by decide) rfl ?_
      refine z_iinc (v := (v2 + 1)) (lv' := [(0, .ref (X.2.2 82)), (1, .int x1), (2, .int (v2 + 1))]) S [1, 2, 0] 2 dX6_hadAtAll_28 rfl (by rfl) (by decide) rfl ?_
      refine z_goto (tgt := 4) S dX6_hadAtAll_31 (by decide) ?_
      refine z_lv (ks := [0, 1, 2]) rfl ?_
      exact hc _ (Option.some.inj he).symm
set_option maxRecDepth 100000 in
set_option maxHeartbeats 4000000 in
theorem K_X6_hadAtAll {X : Cx} {l : Launch} {M : Mm} {r : Int32}  (he : f_X6_hadAtAll M  = some r) : KI X 0 l yX6_hadAtAll (wz yX6_hadAtAll cX6_hadAtAll 3 (some .int)) rm_X6_hadAtAll [.ref (X.2.2 82)] M r M := by
  intro sz
  refine K_of (Qc := (fun sz => QI X 0 r M sz)) (own := RX6) (lv0 := [(0, .ref (X.2.2 82))]) (by decide +kernel) rfl (Nat.le_of_ble_eq_true rfl) rfl (fun p e s m args below meth c S => ?_) sz
  · unfold f_X6_hadAtAll at he
    refine z_iconst (v := 0) S dX6_hadAtAll_0 (by decide) ?_
    refine z_istore_n (lv' := [(0, .ref (X.2.2 82)), (1, .int 0)]) S [1, 0] dX6_hadAtAll_1 rfl (by decide) rfl ?_
    refine z_iconst (v := 0) S dX6_hadAtAll_2 (by decide) ?_
    refine z_istore_n (lv' := [(0, .ref (X.2.2 82)), (1, .int 0), (2, .int 0)]) S [1, 2, 0] dX6_hadAtAll_3 rfl (by decide) rfl ?_
    obtain ⟨e_2, hl, he⟩ := bnd he
    have hX : Z X 0 p l e rm_X6_hadAtAll s m args below meth c 0 0 (MQ below (QI X 0 r M s.heap.size) args s 0 0 (AA X 0 s.heap.size)) 3 M 34 [(1, .int e_2)] [] := by
      refine z_iload_n S dX6_hadAtAll_34 rfl 0 rfl ?_
      exact z_iret S (⟨Option.some.inj he, rfl⟩) dX6_hadAtAll_35
    have hZ9 := loopZ (f := (fun a_2 => f_X6_hadAtAll_L4 M a_2.1 a_2.2)) (Zh := (fun a_2 => Z X 0 p l e rm_X6_hadAtAll s m args below meth c 0 0 (MQ below (QI X 0 r M s.heap.size) args s 0 0 (AA X 0 s.heap.size)) 3 M 4 [(0, .ref (X.2.2 82)), (1, .int a_2.1), (2, .int a_2.2)] [])) (fun a_2 x hb hc hr => p_X6_hadAtAll_L4 S  hb hc (fun b hxe => by rw [hr b hxe]; exact hX)) FU (0, 0) hl
    exact hZ9
set_option maxRecDepth 100000 in
set_option maxHeartbeats 4000000 in
theorem p_X6_hadBy_L4 {X : Cx} {p : Program} {l : Launch} {e : Env} {s : State} {m : MethodId} {args : Array Value} {below : List Frame} {meth : Method} {c : Code} (S : SB X 0 p s m args meth c cX6_hadBy 4 (some .int) RX6) {M : Mm} {r : Int32} {v1 : Int32} {v2 : Int32} {v3 : Int32} {x : (Int32 × Int32) ⊕ Int32}  (he : f_X6_hadBy_L4 M v1 v2 v3 = some x) (hc : ∀ b, x = .inl b → Z X 0 p l e rm_X6_hadBy s m args below meth c 0 0 (MQ below (QI X 0 r M s.heap.size) args s 0 0 (AA X 0 s.heap.size)) 4 M 4 [(0, .ref (X.2.2 82)), (1, .int v1), (2, .int b.1), (3, .int b.2)] []) (hx : ∀ b, x = .inr b → Z X 0 p l e rm_X6_hadBy s m args below meth c 0 0 (MQ below (QI X 0 r M s.heap.size) args s 0 0 (AA X 0 s.heap.size)) 4 M 34 [(2, .int b)] []) : Z X 0 p l e rm_X6_hadBy s m args below meth c 0 0 (MQ below (QI X 0 r M s.heap.size) args s 0 0 (AA X 0 s.heap.size)) 4 M 4 [(0, .ref (X.2.2 82)), (1, .int v1), (2, .int v2), (3, .int v3)] [] := by
  unfold f_X6_hadBy_L4 at he
  refine z_iload_n S dX6_hadBy_4 rfl 3 rfl ?_
  refine z_bipush (v := 10) S dX6_hadBy_5 (by decide) ?_
  refine z_icmp_ge (tgt := 34) S he dX6_hadBy_7 (by decide) (fun he => ?_) (fun he => ?_)
  · refine z_lv (ks := [2]) rfl ?_
    exact hx _ (Option.some.inj he).symm
  · refine z_aload_n S dX6_hadBy_10 rfl 0 rfl ?_
    refine z_getF (j := 85) S fo_RX6_18 3 rfl rfl ok_82 dX6_hadBy_11 ?_
    refine z_iload_n S dX6_hadBy_14 rfl 3 rfl ?_
    refine z_cNI (As := [.ref (X.2.2 85), .int v3]) S cn_RX6_55 (Kt_X9_at ok_85 rfl) ⟨rfl, rfl⟩ ⟨Nat.le_of_ble_eq_true rfl, Nat.le_of_ble_eq_true rfl⟩ ⟨Nat.le_refl _, Nat.le_refl _⟩ rfl rfl (Nat.le_of_ble_eq_true rfl) dX6_hadBy_15 ?_
    refine z_iload_n S dX6_hadBy_18 rfl 1 rfl ?_
    refine z_icmp_ne (tgt := 28) S he dX6_hadBy_19 (by decide) (fun he => ?_) (fun he => ?_)
    · refine z_iinc (v := (v3 + 1)) (lv' := [(0, .ref (X.2.2 82)), (1, .int v1), (2, .int v2), (3, .int (v3 + 1))]) S [1, 2, 3, 0] 3 dX6_hadBy_28 rfl (by rfl) (by decide) rfl ?_
      refine z_goto (tgt := 4) S dX6_hadBy_31 (by decide) ?_
      refine z_lv (ks := [0, 1, 2, 3]) rfl ?_
      exact hc _ (Option.some.inj he).symm
    · refine z_iload_n S dX6_hadBy_22 rfl 2 rfl ?_
      refine z_iconst (v := 1) S dX6_hadBy_23 (by decide) ?_
      refine z_iload_n S dX6_hadBy_24 rfl 3 rfl ?_
      refine z_ishl S dX6_hadBy_25 ?_
      refine z_ior S dX6_hadBy_26 ?_
      obtain ⟨x1, ex1, he⟩ := bnd he
      rw [Option.some.inj ex1]
      refine z_istore_n (lv' := [(0, .ref (X.2.2 82)), (1, .int v1), (2, .int x1), (3, .int v3)]) S [1, 2, 0, 3] dX6_hadBy_27 rfl (by decide) rfl ?_
      refine z_iinc (v := (v3 + 1)) (lv' := [(0, .ref (X.2.2 82)), (1, .int v1), (2, .int x1), (3, .int (v3 + 1))]) S [1, 2, 3, 0] 3 dX6_hadBy_28 rfl (by rfl) (by decide) rfl ?_
      refine z_goto (tgt := 4) S dX6_hadBy_31 (by decide) ?_
      refine z_lv (ks := [0, 1, 2, 3]) rfl ?_
      exact hc _ (Option.some.inj he).symm
set_option maxRecDepth 100000 in
set_option maxHeartbeats 4000000 in
theorem K_X6_hadBy {X : Cx} {l : Launch} {M : Mm} {a1 : Int32} {r : Int32}  (he : f_X6_hadBy M a1 = some r) : KI X 0 l yX6_hadBy (wz yX6_hadBy cX6_hadBy 4 (some .int)) rm_X6_hadBy [.ref (X.2.2 82), .int a1] M r M := by
  intro sz
  refine K_of (Qc := (fun sz => QI X 0 r M sz)) (own := RX6) (lv0 := [(0, .ref (X.2.2 82)), (1, .int a1)]) (by decide +kernel) rfl (Nat.le_of_ble_eq_true rfl) rfl (fun p e s m args below meth c S => ?_) sz
  · unfold f_X6_hadBy at he
    refine z_iconst (v := 0) S dX6_hadBy_0 (by decide) ?_
    refine z_istore_n (lv' := [(0, .ref (X.2.2 82)), (1, .int a1), (2, .int 0)]) S [1, 2, 0] dX6_hadBy_1 rfl (by decide) rfl ?_
    refine z_iconst (v := 0) S dX6_hadBy_2 (by decide) ?_
    refine z_istore_n (lv' := [(0, .ref (X.2.2 82)), (1, .int a1), (2, .int 0), (3, .int 0)]) S [1, 2, 3, 0] dX6_hadBy_3 rfl (by decide) rfl ?_
    obtain ⟨e_2, hl, he⟩ := bnd he
    have hX : Z X 0 p l e rm_X6_hadBy s m args below meth c 0 0 (MQ below (QI X 0 r M s.heap.size) args s 0 0 (AA X 0 s.heap.size)) 4 M 34 [(2, .int e_2)] [] := by
      refine z_iload_n S dX6_hadBy_34 rfl 0 rfl ?_
      exact z_iret S (⟨Option.some.inj he, rfl⟩) dX6_hadBy_35
    have hZ9 := loopZ (f := (fun a_2 => f_X6_hadBy_L4 M a1 a_2.1 a_2.2)) (Zh := (fun a_2 => Z X 0 p l e rm_X6_hadBy s m args below meth c 0 0 (MQ below (QI X 0 r M s.heap.size) args s 0 0 (AA X 0 s.heap.size)) 4 M 4 [(0, .ref (X.2.2 82)), (1, .int a1), (2, .int a_2.1), (3, .int a_2.2)] [])) (fun a_2 x hb hc hr => p_X6_hadBy_L4 S  hb hc (fun b hxe => by rw [hr b hxe]; exact hX)) FU (0, 0) hl
    exact hZ9
set_option maxRecDepth 100000 in
set_option maxHeartbeats 4000000 in
theorem p_X6_lead_L10 {X : Cx} {p : Program} {l : Launch} {e : Env} {s : State} {m : MethodId} {args : Array Value} {below : List Frame} {meth : Method} {c : Code} (S : SB X 0 p s m args meth c cX6_lead 7 (some .int) RX6) {M : Mm} {N : Mm} {r : Int32} {v1 : Nat} {v2 : Int32} {v3 : Int32} {x : (Mm × Int32) ⊕ Mm} (h_v1 : OK 0 v1 4) (he : f_X6_lead_L10 M v1 v2 v3 = some x) (hc : ∀ b, x = .inl b → Z X 0 p l e rm_X6_lead s m args below meth c 0 0 (MQ below (QI X 0 r N s.heap.size) args s 0 0 (AA X 0 s.heap.size)) 7 b.1 10 [(0, .ref (X.2.2 82)), (1, .ref (X.2.2 v1)), (2, .int v2), (3, .int b.2)] []) (hx : ∀ b, x = .inr b → Z X 0 p l e rm_X6_lead s m args below meth c 0 0 (MQ below (QI X 0 r N s.heap.size) args s 0 0 (AA X 0 s.heap.size)) 7 b 38 [(0, .ref (X.2.2 82)), (1, .ref (X.2.2 v1)), (2, .int v2)] []) : Z X 0 p l e rm_X6_lead s m args below meth c 0 0 (MQ below (QI X 0 r N s.heap.size) args s 0 0 (AA X 0 s.heap.size)) 7 M 10 [(0, .ref (X.2.2 82)), (1, .ref (X.2.2 v1)), (2, .int v2), (3, .int v3)] [] := by
  unfold f_X6_lead_L10 at he
  refine z_iload_n S dX6_lead_10 rfl 3 rfl ?_
  refine z_aload_n S dX6_lead_11 rfl 1 rfl ?_
  refine z_getI S fo_RX6_24 rfl h_v1 dX6_lead_12 ?_
  refine z_icmp_ge (tgt := 38) S he dX6_lead_15 (by decide) (fun he => ?_) (fun he => ?_)
  · refine z_lv (ks := [0, 1, 2]) rfl ?_
    exact hx _ (Option.some.inj he).symm
  · refine z_aload_n S dX6_lead_18 rfl 0 rfl ?_
    refine z_getF (j := 86) S fo_RX6_21 4 rfl rfl ok_82 dX6_lead_19 ?_
    refine z_iload_n S dX6_lead_22 rfl 3 rfl ?_
    refine z_aload_n S dX6_lead_23 rfl 1 rfl ?_
    refine z_iload_n S dX6_lead_24 rfl 3 rfl ?_
    refine z_iconst (v := 2) S dX6_lead_25 (by decide) ?_
    refine z_cVI (As := [.int v3, .int 2]) S cv_RX6_65 (K_X4_ofThing h_v1 rfl) h_v1 (by decide) (q := (RX4, TX4, 10)) rfl rfl ⟨rfl, rfl⟩ ⟨Nat.le_of_ble_eq_true rfl, Nat.le_of_ble_eq_true rfl⟩ ⟨Nat.le_refl _, Nat.le_refl _⟩ rfl rfl (Nat.le_of_ble_eq_true rfl) dX6_lead_26 ?_
    obtain ⟨M2, h9, he⟩ := bnd he
    refine z_cNV (As := [.ref (X.2.2 86), .int v3, .int (f_X4_ofThing M v1 v3 2)]) S cn_RX6_39 (Kt_X9_put ok_86 (Option.some.inj h9)) ⟨rfl, rfl⟩ ⟨Nat.le_of_ble_eq_true rfl, Nat.le_of_ble_eq_true rfl⟩ ⟨Nat.le_refl _, Nat.le_refl _⟩ rfl rfl (Nat.le_of_ble_eq_true rfl) dX6_lead_29 ?_
    refine z_iinc (v := (v3 + 1)) (lv' := [(0, .ref (X.2.2 82)), (1, .ref (X.2.2 v1)), (2, .int v2), (3, .int (v3 + 1))]) S [1, 2, 3, 0] 3 dX6_lead_32 rfl (by rfl) (by decide) rfl ?_
    refine z_goto (tgt := 10) S dX6_lead_35 (by decide) ?_
    refine z_lv (ks := [0, 1, 2, 3]) rfl ?_
    exact hc _ (Option.some.inj he).symm
set_option maxRecDepth 100000 in
set_option maxHeartbeats 4000000 in
theorem p_X6_lead_J43_88 {X : Cx} {p : Program} {l : Launch} {e : Env} {s : State} {m : MethodId} {args : Array Value} {below : List Frame} {meth : Method} {c : Code} (S : SB X 0 p s m args meth c cX6_lead 7 (some .int) RX6) {M : Mm} {N : Mm} {r : Int32} {v1 : Nat} {v2 : Int32} {v3 : Int32} {v4 : Int32} {t0 : Int32} {x : (Mm × Int32 × Int32) ⊕ (Mm × Int32)} (h_v1 : OK 0 v1 4) (he : f_X6_lead_J43_88 M v1 v2 v3 v4 t0 = some x) (hc : ∀ b, x = .inl b → Z X 0 p l e rm_X6_lead s m args below meth c 0 0 (MQ below (QI X 0 r N s.heap.size) args s 0 0 (AA X 0 s.heap.size)) 7 b.1 43 [(0, .ref (X.2.2 82)), (1, .ref (X.2.2 v1)), (2, .int v2), (3, .int b.2.1), (4, .int b.2.2)] []) (hx : ∀ b, x = .inr b → Z X 0 p l e rm_X6_lead s m args below meth c 0 0 (MQ below (QI X 0 r N s.heap.size) args s 0 0 (AA X 0 s.heap.size)) 7 b.1 136 [(3, .int b.2)] []) : Z X 0 p l e rm_X6_lead s m args below meth c 0 0 (MQ below (QI X 0 r N s.heap.size) args s 0 0 (AA X 0 s.heap.size)) 7 M 88 [(0, .ref (X.2.2 82)), (1, .ref (X.2.2 v1)), (2, .int v2), (3, .int v3), (4, .int v4)] [.int t0] := by
  unfold f_X6_lead_J43_88 at he
  refine z_istore (lv' := [(0, .ref (X.2.2 82)), (1, .ref (X.2.2 v1)), (2, .int v2), (3, .int v3), (4, .int v4), (6, .int t0)]) S [1, 2, 3, 4, 5, 0] dX6_lead_88 (by decide) rfl ?_
  refine z_iload S dX6_lead_90 5 rfl ?_
  refine z_iconst (v := (-1)) S dX6_lead_92 (by decide) ?_
  refine z_icmp_eq (tgt := 130) S he dX6_lead_93 (by decide) (fun he => ?_) (fun he => ?_)
  · refine z_iinc (v := (v4 + 1)) (lv' := [(0, .ref (X.2.2 82)), (1, .ref (X.2.2 v1)), (2, .int v2), (3, .int v3), (4, .int (v4 + 1)), (6, .int t0)]) S [1, 2, 3, 4, 0, 5] 4 dX6_lead_130 rfl (by rfl) (by decide) rfl ?_
    refine z_goto (tgt := 43) S dX6_lead_133 (by decide) ?_
    refine z_lv (ks := [0, 1, 2, 3, 4]) rfl ?_
    exact hc _ (Option.some.inj he).symm
  · refine z_aload_n S dX6_lead_96 rfl 0 rfl ?_
    refine z_getF (j := 85) S fo_RX6_18 3 rfl rfl ok_82 dX6_lead_97 ?_
    refine z_iload S dX6_lead_100 4 rfl ?_
    refine z_iload S dX6_lead_102 5 rfl ?_
    obtain ⟨M5, h9, he⟩ := bnd he
    refine z_cNV (As := [.ref (X.2.2 85), .int v4, .int t0]) S cn_RX6_39 (Kt_X9_put ok_85 (Option.some.inj h9)) ⟨rfl, rfl⟩ ⟨Nat.le_of_ble_eq_true rfl, Nat.le_of_ble_eq_true rfl⟩ ⟨Nat.le_refl _, Nat.le_refl _⟩ rfl rfl (Nat.le_of_ble_eq_true rfl) dX6_lead_104 ?_
    refine z_aload_n S dX6_lead_107 rfl 0 rfl ?_
    refine z_getF (j := 86) S fo_RX6_21 4 rfl rfl ok_82 dX6_lead_108 ?_
    refine z_iload S dX6_lead_111 5 rfl ?_
    refine z_aload_n S dX6_lead_113 rfl 0 rfl ?_
    refine z_getF (j := 86) S fo_RX6_21 4 rfl rfl ok_82 dX6_lead_114 ?_
    refine z_iload S dX6_lead_117 5 rfl ?_
    refine z_cNI (As := [.ref (X.2.2 86), .int t0]) S cn_RX6_55 (Kt_X9_at ok_86 rfl) ⟨rfl, rfl⟩ ⟨Nat.le_of_ble_eq_true rfl, Nat.le_of_ble_eq_true rfl⟩ ⟨Nat.le_refl _, Nat.le_refl _⟩ rfl rfl (Nat.le_of_ble_eq_true rfl) dX6_lead_119 ?_
    refine z_iconst (v := 1) S dX6_lead_122 (by decide) ?_
    refine z_isub S dX6_lead_123 ?_
    obtain ⟨M6, h9, he⟩ := bnd he
    refine z_cNV (As := [.ref (X.2.2 86), .int t0, .int ((t_X9_at M5 86 t0) - 1)]) S cn_RX6_39 (Kt_X9_put ok_86 (Option.some.inj h9)) ⟨rfl, rfl⟩ ⟨Nat.le_of_ble_eq_true rfl, Nat.le_of_ble_eq_true rfl⟩ ⟨Nat.le_refl _, Nat.le_refl _⟩ rfl rfl (Nat.le_of_ble_eq_true rfl) dX6_lead_124 ?_
    refine z_iinc (v := (v3 + 1)) (lv' := [(0, .ref (X.2.2 82)), (1, .ref (X.2.2 v1)), (2, .int v2), (3, .int (v3 + 1)), (4, .int v4), (6, .int t0)]) S [1, 2, 3, 0, 4, 5] 3 dX6_lead_127 rfl (by rfl) (by decide) rfl ?_
    refine z_iinc (v := (v4 + 1)) (lv' := [(0, .ref (X.2.2 82)), (1, .ref (X.2.2 v1)), (2, .int v2), (3, .int (v3 + 1)), (4, .int (v4 + 1)), (6, .int t0)]) S [1, 2, 3, 4, 0, 5] 4 dX6_lead_130 rfl (by rfl) (by decide) rfl ?_
    refine z_goto (tgt := 43) S dX6_lead_133 (by decide) ?_
    refine z_lv (ks := [0, 1, 2, 3, 4]) rfl ?_
    exact hc _ (Option.some.inj he).symm
set_option maxRecDepth 100000 in
set_option maxHeartbeats 4000000 in
theorem p_X6_lead_J43_70 {X : Cx} {p : Program} {l : Launch} {e : Env} {s : State} {m : MethodId} {args : Array Value} {below : List Frame} {meth : Method} {c : Code} (S : SB X 0 p s m args meth c cX6_lead 7 (some .int) RX6) {M : Mm} {N : Mm} {r : Int32} {v1 : Nat} {v2 : Int32} {v3 : Int32} {v4 : Int32} {t0 : Int32} {x : (Mm × Int32 × Int32) ⊕ (Mm × Int32)} (h_v1 : OK 0 v1 4) (he : f_X6_lead_J43_70 M v1 v2 v3 v4 t0 = some x) (hc : ∀ b, x = .inl b → Z X 0 p l e rm_X6_lead s m args below meth c 0 0 (MQ below (QI X 0 r N s.heap.size) args s 0 0 (AA X 0 s.heap.size)) 7 b.1 43 [(0, .ref (X.2.2 82)), (1, .ref (X.2.2 v1)), (2, .int v2), (3, .int b.2.1), (4, .int b.2.2)] []) (hx : ∀ b, x = .inr b → Z X 0 p l e rm_X6_lead s m args below meth c 0 0 (MQ below (QI X 0 r N s.heap.size) args s 0 0 (AA X 0 s.heap.size)) 7 b.1 136 [(3, .int b.2)] []) : Z X 0 p l e rm_X6_lead s m args below meth c 0 0 (MQ below (QI X 0 r N s.heap.size) args s 0 0 (AA X 0 s.heap.size)) 7 M 70 [(0, .ref (X.2.2 82)), (1, .ref (X.2.2 v1)), (2, .int v2), (3, .int v3), (4, .int v4)] [.int t0] := by
  unfold f_X6_lead_J43_70 at he
  refine z_istore (lv' := [(0, .ref (X.2.2 82)), (1, .ref (X.2.2 v1)), (2, .int v2), (3, .int v3), (4, .int v4), (5, .int t0)]) S [1, 2, 3, 4, 5, 0] dX6_lead_70 (by decide) rfl ?_
  refine z_iload S dX6_lead_72 5 rfl ?_
  refine z_if_eq (tgt := 81) S he dX6_lead_74 (by decide) (fun he => ?_) (fun he => ?_)
  · refine z_aload_n S dX6_lead_81 rfl 0 rfl ?_
    refine z_aload_n S dX6_lead_82 rfl 1 rfl ?_
    refine z_iload S dX6_lead_83 4 rfl ?_
    obtain ⟨r4, h9, he⟩ := bnd he
    refine z_cVI (As := [.ref (X.2.2 v1), .int v4]) S cv_RX6_72 (K_X6_firstToRing h_v1 h9) ok_82 (by decide) (q := (RX6, TX6, 4)) rfl rfl ⟨rfl, rfl⟩ ⟨Nat.le_of_ble_eq_true rfl, Nat.le_of_ble_eq_true rfl⟩ ⟨Nat.le_refl _, Nat.le_refl _⟩ rfl rfl (Nat.le_of_ble_eq_true rfl) dX6_lead_85 ?_
    refine z_lv (ks := [0, 1, 2, 3, 4]) rfl ?_
    exact p_X6_lead_J43_88 S h_v1 he hc hx
  · refine z_iconst (v := (-1)) S dX6_lead_77 (by decide) ?_
    refine z_goto (tgt := 88) S dX6_lead_78 (by decide) ?_
    refine z_lv (ks := [0, 1, 2, 3, 4]) rfl ?_
    exact p_X6_lead_J43_88 S h_v1 he hc hx
set_option maxRecDepth 100000 in
set_option maxHeartbeats 4000000 in
theorem p_X6_lead_J43_69 {X : Cx} {p : Program} {l : Launch} {e : Env} {s : State} {m : MethodId} {args : Array Value} {below : List Frame} {meth : Method} {c : Code} (S : SB X 0 p s m args meth c cX6_lead 7 (some .int) RX6) {M : Mm} {N : Mm} {r : Int32} {v1 : Nat} {v2 : Int32} {v3 : Int32} {v4 : Int32} {x : (Mm × Int32 × Int32) ⊕ (Mm × Int32)} (h_v1 : OK 0 v1 4) (he : f_X6_lead_J43_69 M v1 v2 v3 v4 = some x) (hc : ∀ b, x = .inl b → Z X 0 p l e rm_X6_lead s m args below meth c 0 0 (MQ below (QI X 0 r N s.heap.size) args s 0 0 (AA X 0 s.heap.size)) 7 b.1 43 [(0, .ref (X.2.2 82)), (1, .ref (X.2.2 v1)), (2, .int v2), (3, .int b.2.1), (4, .int b.2.2)] []) (hx : ∀ b, x = .inr b → Z X 0 p l e rm_X6_lead s m args below meth c 0 0 (MQ below (QI X 0 r N s.heap.size) args s 0 0 (AA X 0 s.heap.size)) 7 b.1 136 [(3, .int b.2)] []) : Z X 0 p l e rm_X6_lead s m args below meth c 0 0 (MQ below (QI X 0 r N s.heap.size) args s 0 0 (AA X 0 s.heap.size)) 7 M 69 [(0, .ref (X.2.2 82)), (1, .ref (X.2.2 v1)), (2, .int v2), (3, .int v3), (4, .int v4)] [] := by
  unfold f_X6_lead_J43_69 at he
  refine z_iconst (v := 0) S dX6_lead_69 (by decide) ?_
  exact p_X6_lead_J43_70 S h_v1 he hc hx
set_option maxRecDepth 100000 in
set_option maxHeartbeats 4000000 in
theorem p_X6_lead_L43 {X : Cx} {p : Program} {l : Launch} {e : Env} {s : State} {m : MethodId} {args : Array Value} {below : List Frame} {meth : Method} {c : Code} (S : SB X 0 p s m args meth c cX6_lead 7 (some .int) RX6) {M : Mm} {N : Mm} {r : Int32} {v1 : Nat} {v2 : Int32} {v3 : Int32} {v4 : Int32} {x : (Mm × Int32 × Int32) ⊕ (Mm × Int32)} (h_v1 : OK 0 v1 4) (he : f_X6_lead_L43 M v1 v2 v3 v4 = some x) (hc : ∀ b, x = .inl b → Z X 0 p l e rm_X6_lead s m args below meth c 0 0 (MQ below (QI X 0 r N s.heap.size) args s 0 0 (AA X 0 s.heap.size)) 7 b.1 43 [(0, .ref (X.2.2 82)), (1, .ref (X.2.2 v1)), (2, .int v2), (3, .int b.2.1), (4, .int b.2.2)] []) (hx : ∀ b, x = .inr b → Z X 0 p l e rm_X6_lead s m args below meth c 0 0 (MQ below (QI X 0 r N s.heap.size) args s 0 0 (AA X 0 s.heap.size)) 7 b.1 136 [(3, .int b.2)] []) : Z X 0 p l e rm_X6_lead s m args below meth c 0 0 (MQ below (QI X 0 r N s.heap.size) args s 0 0 (AA X 0 s.heap.size)) 7 M 43 [(0, .ref (X.2.2 82)), (1, .ref (X.2.2 v1)), (2, .int v2), (3, .int v3), (4, .int v4)] [] := by
  unfold f_X6_lead_L43 at he
  refine z_iload S dX6_lead_43 4 rfl ?_
  refine z_aload_n S dX6_lead_45 rfl 1 rfl ?_
  refine z_getI S fo_RX6_30 rfl h_v1 dX6_lead_46 ?_
  refine z_icmp_ge (tgt := 136) S he dX6_lead_49 (by decide) (fun he => ?_) (fun he => ?_)
  · refine z_lv (ks := [3]) rfl ?_
    exact hx _ (Option.some.inj he).symm
  · refine z_iload_n S dX6_lead_52 rfl 2 rfl ?_
    refine z_if_eq (tgt := 69) S he dX6_lead_53 (by decide) (fun he => ?_) (fun he => ?_)
    · exact p_X6_lead_J43_69 S h_v1 he hc hx
    · refine z_aload_n S dX6_lead_56 rfl 1 rfl ?_
      refine z_iload S dX6_lead_57 4 rfl ?_
      obtain ⟨⟨r7, M8⟩, h9, he⟩ := bnd he
      dsimp only at he
      refine z_cVI (As := [.int v4]) S cv_RX6_68 (K_X4_drawsAway h_v1 (Option.some.inj h9)) h_v1 (by decide) (q := (RX4, TX4, 10)) rfl rfl ⟨rfl, rfl⟩ ⟨Nat.le_of_ble_eq_true rfl, Nat.le_of_ble_eq_true rfl⟩ ⟨Nat.le_refl _, Nat.le_refl _⟩ rfl rfl (Nat.le_of_ble_eq_true rfl) dX6_lead_59 ?_
      refine z_ifb_eq (tgt := 69) S he dX6_lead_62 (by decide) (fun he => ?_) (fun he => ?_)
      · exact p_X6_lead_J43_69 S h_v1 he hc hx
      · refine z_iconst (v := 1) S dX6_lead_65 (by decide) ?_
        refine z_goto (tgt := 70) S dX6_lead_66 (by decide) ?_
        exact p_X6_lead_J43_70 S h_v1 he hc hx
set_option maxRecDepth 100000 in
set_option maxHeartbeats 4000000 in
theorem K_X6_lead {X : Cx} {l : Launch} {M : Mm} {a1 : Nat} {a2 : Int32} {r : Int32} {N : Mm} (h_a1 : OK 0 a1 4) (he : f_X6_lead M a1 a2 = some (r, N)) : KI X 0 l yX6_lead (wz yX6_lead cX6_lead 7 (some .int)) rm_X6_lead [.ref (X.2.2 82), .ref (X.2.2 a1), .int a2] M r N := by
  intro sz
  refine K_of (Qc := (fun sz => QI X 0 r N sz)) (own := RX6) (lv0 := [(0, .ref (X.2.2 82)), (1, .ref (X.2.2 a1)), (2, .int a2)]) (by decide +kernel) rfl (Nat.le_of_ble_eq_true rfl) rfl (fun p e s m args below meth c S => ?_) sz
  · unfold f_X6_lead at he
    refine z_aload_n S dX6_lead_0 rfl 0 rfl ?_
    refine z_getF (j := 85) S fo_RX6_18 3 rfl rfl ok_82 dX6_lead_1 ?_
    refine z_iconst (v := (-1)) S dX6_lead_4 (by decide) ?_
    obtain ⟨M1, h9, he⟩ := bnd he
    refine z_cSV (As := [.ref (X.2.2 85), .int (-1)]) S cs_RX6_59 (K_J7_fill_53178 ok_85 h9) ⟨rfl, rfl⟩ ⟨Nat.le_of_ble_eq_true rfl, Nat.le_of_ble_eq_true rfl⟩ ⟨Nat.le_refl _, Nat.le_refl _⟩ rfl rfl (Nat.le_of_ble_eq_true rfl) dX6_lead_5 ?_
    refine z_iconst (v := 0) S dX6_lead_8 (by decide) ?_
    refine z_istore_n (lv' := [(0, .ref (X.2.2 82)), (1, .ref (X.2.2 a1)), (2, .int a2), (3, .int 0)]) S [1, 2, 3, 0] dX6_lead_9 rfl (by decide) rfl ?_
    obtain ⟨e_3, hl, he⟩ := bnd he
    have hX : Z X 0 p l e rm_X6_lead s m args below meth c 0 0 (MQ below (QI X 0 r N s.heap.size) args s 0 0 (AA X 0 s.heap.size)) 7 e_3 38 [(0, .ref (X.2.2 82)), (1, .ref (X.2.2 a1)), (2, .int a2)] [] := by
      refine z_iconst (v := 0) S dX6_lead_38 (by decide) ?_
      refine z_istore_n (lv' := [(0, .ref (X.2.2 82)), (1, .ref (X.2.2 a1)), (2, .int a2), (3, .int 0)]) S [1, 2, 3, 0] dX6_lead_39 rfl (by decide) rfl ?_
      refine z_iconst (v := 0) S dX6_lead_40 (by decide) ?_
      refine z_istore (lv' := [(0, .ref (X.2.2 82)), (1, .ref (X.2.2 a1)), (2, .int a2), (3, .int 0), (4, .int 0)]) S [1, 2, 3, 4, 0] dX6_lead_41 (by decide) rfl ?_
      obtain ⟨e_9, hl, he⟩ := bnd he
      have hX : Z X 0 p l e rm_X6_lead s m args below meth c 0 0 (MQ below (QI X 0 r N s.heap.size) args s 0 0 (AA X 0 s.heap.size)) 7 e_9.1 136 [(3, .int e_9.2)] [] := by
        refine z_iload_n S dX6_lead_136 rfl 0 rfl ?_
        exact z_iret S (Prod.mk.inj (Option.some.inj he)) dX6_lead_137
      have hZ9 := loopZ (f := (fun a_9 => f_X6_lead_L43 a_9.1 a1 a2 a_9.2.1 a_9.2.2)) (Zh := (fun a_9 => Z X 0 p l e rm_X6_lead s m args below meth c 0 0 (MQ below (QI X 0 r N s.heap.size) args s 0 0 (AA X 0 s.heap.size)) 7 a_9.1 43 [(0, .ref (X.2.2 82)), (1, .ref (X.2.2 a1)), (2, .int a2), (3, .int a_9.2.1), (4, .int a_9.2.2)] [])) (fun a_9 x hb hc hr => p_X6_lead_L43 S h_a1 hb hc (fun b hxe => by rw [hr b hxe]; exact hX)) FU (e_3, 0, 0) hl
      exact hZ9
    have hZ9 := loopZ (f := (fun a_3 => f_X6_lead_L10 a_3.1 a1 a2 a_3.2)) (Zh := (fun a_3 => Z X 0 p l e rm_X6_lead s m args below meth c 0 0 (MQ below (QI X 0 r N s.heap.size) args s 0 0 (AA X 0 s.heap.size)) 7 a_3.1 10 [(0, .ref (X.2.2 82)), (1, .ref (X.2.2 a1)), (2, .int a2), (3, .int a_3.2)] [])) (fun a_3 x hb hc hr => p_X6_lead_L10 S h_a1 hb hc (fun b hxe => by rw [hr b hxe]; exact hX)) FU (M1, 0) hl
    exact hZ9
set_option maxRecDepth 100000 in
set_option maxHeartbeats 4000000 in
theorem p_X6_likedBy_L4 {X : Cx} {p : Program} {l : Launch} {e : Env} {s : State} {m : MethodId} {args : Array Value} {below : List Frame} {meth : Method} {c : Code} (S : SB X 0 p s m args meth c cX6_likedBy 4 (some .int) RX6) {M : Mm} {r : Int32} {v1 : Int32} {v2 : Int32} {v3 : Int32} {x : (Int32 × Int32) ⊕ Int32}  (he : f_X6_likedBy_L4 M v1 v2 v3 = some x) (hc : ∀ b, x = .inl b → Z X 0 p l e rm_X6_likedBy s m args below meth c 0 0 (MQ below (QI X 0 r M s.heap.size) args s 0 0 (AA X 0 s.heap.size)) 4 M 4 [(0, .ref (X.2.2 82)), (1, .int v1), (2, .int b.1), (3, .int b.2)] []) (hx : ∀ b, x = .inr b → Z X 0 p l e rm_X6_likedBy s m args below meth c 0 0 (MQ below (QI X 0 r M s.heap.size) args s 0 0 (AA X 0 s.heap.size)) 4 M 37 [(2, .int b)] []) : Z X 0 p l e rm_X6_likedBy s m args below meth c 0 0 (MQ below (QI X 0 r M s.heap.size) args s 0 0 (AA X 0 s.heap.size)) 4 M 4 [(0, .ref (X.2.2 82)), (1, .int v1), (2, .int v2), (3, .int v3)] [] := by
  unfold f_X6_likedBy_L4 at he
  refine z_iload_n S dX6_likedBy_4 rfl 3 rfl ?_
  refine z_bipush (v := 10) S dX6_likedBy_5 (by decide) ?_
  refine z_icmp_ge (tgt := 37) S he dX6_likedBy_7 (by decide) (fun he => ?_) (fun he => ?_)
  · refine z_lv (ks := [2]) rfl ?_
    exact hx _ (Option.some.inj he).symm
  · refine z_aload_n S dX6_likedBy_10 rfl 0 rfl ?_
    refine z_getF (j := 85) S fo_RX6_18 3 rfl rfl ok_82 dX6_likedBy_11 ?_
    refine z_iload_n S dX6_likedBy_14 rfl 3 rfl ?_
    refine z_cNI (As := [.ref (X.2.2 85), .int v3]) S cn_RX6_55 (Kt_X9_at ok_85 rfl) ⟨rfl, rfl⟩ ⟨Nat.le_of_ble_eq_true rfl, Nat.le_of_ble_eq_true rfl⟩ ⟨Nat.le_refl _, Nat.le_refl _⟩ rfl rfl (Nat.le_of_ble_eq_true rfl) dX6_likedBy_15 ?_
    refine z_iload_n S dX6_likedBy_18 rfl 1 rfl ?_
    refine z_icmp_ne (tgt := 31) S he dX6_likedBy_19 (by decide) (fun he => ?_) (fun he => ?_)
    · refine z_iinc (v := (v3 + 1)) (lv' := [(0, .ref (X.2.2 82)), (1, .int v1), (2, .int v2), (3, .int (v3 + 1))]) S [1, 2, 3, 0] 3 dX6_likedBy_31 rfl (by rfl) (by decide) rfl ?_
      refine z_goto (tgt := 4) S dX6_likedBy_34 (by decide) ?_
      refine z_lv (ks := [0, 1, 2, 3]) rfl ?_
      exact hc _ (Option.some.inj he).symm
    · refine z_iload_n S dX6_likedBy_22 rfl 2 rfl ?_
      refine z_aload_n S dX6_likedBy_23 rfl 0 rfl ?_
      refine z_iload_n S dX6_likedBy_24 rfl 1 rfl ?_
      refine z_iload_n S dX6_likedBy_25 rfl 3 rfl ?_
      refine z_cVI (As := [.int v1, .int v3]) S cv_RX6_47 (K_X6_likes  rfl) ok_82 (by decide) (q := (RX6, TX6, 4)) rfl rfl ⟨rfl, rfl⟩ ⟨Nat.le_of_ble_eq_true rfl, Nat.le_of_ble_eq_true rfl⟩ ⟨Nat.le_refl _, Nat.le_refl _⟩ rfl rfl (Nat.le_of_ble_eq_true rfl) dX6_likedBy_26 ?_
      refine z_iadd S dX6_likedBy_29 ?_
      obtain ⟨x1, ex1, he⟩ := bnd he
      rw [Option.some.inj ex1]
      refine z_istore_n (lv' := [(0, .ref (X.2.2 82)), (1, .int v1), (2, .int x1), (3, .int v3)]) S [1, 2, 0, 3] dX6_likedBy_30 rfl (by decide) rfl ?_
      refine z_iinc (v := (v3 + 1)) (lv' := [(0, .ref (X.2.2 82)), (1, .int v1), (2, .int x1), (3, .int (v3 + 1))]) S [1, 2, 3, 0] 3 dX6_likedBy_31 rfl (by rfl) (by decide) rfl ?_
      refine z_goto (tgt := 4) S dX6_likedBy_34 (by decide) ?_
      refine z_lv (ks := [0, 1, 2, 3]) rfl ?_
      exact hc _ (Option.some.inj he).symm
set_option maxRecDepth 100000 in
set_option maxHeartbeats 4000000 in
theorem K_X6_likedBy {X : Cx} {l : Launch} {M : Mm} {a1 : Int32} {r : Int32}  (he : f_X6_likedBy M a1 = some r) : KI X 0 l yX6_likedBy (wz yX6_likedBy cX6_likedBy 4 (some .int)) rm_X6_likedBy [.ref (X.2.2 82), .int a1] M r M := by
  intro sz
  refine K_of (Qc := (fun sz => QI X 0 r M sz)) (own := RX6) (lv0 := [(0, .ref (X.2.2 82)), (1, .int a1)]) (by decide +kernel) rfl (Nat.le_of_ble_eq_true rfl) rfl (fun p e s m args below meth c S => ?_) sz
  · unfold f_X6_likedBy at he
    refine z_iconst (v := 0) S dX6_likedBy_0 (by decide) ?_
    refine z_istore_n (lv' := [(0, .ref (X.2.2 82)), (1, .int a1), (2, .int 0)]) S [1, 2, 0] dX6_likedBy_1 rfl (by decide) rfl ?_
    refine z_iconst (v := 0) S dX6_likedBy_2 (by decide) ?_
    refine z_istore_n (lv' := [(0, .ref (X.2.2 82)), (1, .int a1), (2, .int 0), (3, .int 0)]) S [1, 2, 3, 0] dX6_likedBy_3 rfl (by decide) rfl ?_
    obtain ⟨e_2, hl, he⟩ := bnd he
    have hX : Z X 0 p l e rm_X6_likedBy s m args below meth c 0 0 (MQ below (QI X 0 r M s.heap.size) args s 0 0 (AA X 0 s.heap.size)) 4 M 37 [(2, .int e_2)] [] := by
      refine z_iload_n S dX6_likedBy_37 rfl 0 rfl ?_
      exact z_iret S (⟨Option.some.inj he, rfl⟩) dX6_likedBy_38
    have hZ9 := loopZ (f := (fun a_2 => f_X6_likedBy_L4 M a1 a_2.1 a_2.2)) (Zh := (fun a_2 => Z X 0 p l e rm_X6_likedBy s m args below meth c 0 0 (MQ below (QI X 0 r M s.heap.size) args s 0 0 (AA X 0 s.heap.size)) 4 M 4 [(0, .ref (X.2.2 82)), (1, .int a1), (2, .int a_2.1), (3, .int a_2.2)] [])) (fun a_2 x hb hc hr => p_X6_likedBy_L4 S  hb hc (fun b hxe => by rw [hr b hxe]; exact hX)) FU (0, 0) hl
    exact hZ9
set_option maxRecDepth 100000 in
set_option maxHeartbeats 4000000 in
theorem p_X6_listen_L15 {X : Cx} {p : Program} {l : Launch} {e : Env} {s : State} {m : MethodId} {args : Array Value} {below : List Frame} {meth : Method} {c : Code} (S : SB X 0 p s m args meth c cX6_listen 5 none RX6) {M : Mm} {N : Mm} {v1 : Nat} {v2 : Int32} {v3 : Int32} {v4 : Int32} {x : (Int32 × Int32) ⊕ Int32} (h_v1 : OK 0 v1 4) (he : f_X6_listen_L15 M v1 v2 v3 v4 = some x) (hc : ∀ b, x = .inl b → Z X 0 p l e rm_X6_listen s m args below meth c 0 0 (MQ below (QV X 0 N s.heap.size) args s 0 0 (AA X 0 s.heap.size)) 5 M 15 [(0, .ref (X.2.2 82)), (1, .ref (X.2.2 v1)), (2, .int v2), (3, .int b.1), (4, .int b.2)] []) (hx : ∀ b, x = .inr b → Z X 0 p l e rm_X6_listen s m args below meth c 0 0 (MQ below (QV X 0 N s.heap.size) args s 0 0 (AA X 0 s.heap.size)) 5 M 52 [(0, .ref (X.2.2 82)), (1, .ref (X.2.2 v1)), (2, .int v2), (3, .int b)] []) : Z X 0 p l e rm_X6_listen s m args below meth c 0 0 (MQ below (QV X 0 N s.heap.size) args s 0 0 (AA X 0 s.heap.size)) 5 M 15 [(0, .ref (X.2.2 82)), (1, .ref (X.2.2 v1)), (2, .int v2), (3, .int v3), (4, .int v4)] [] := by
  unfold f_X6_listen_L15 at he
  refine z_iload S dX6_listen_15 4 rfl ?_
  refine z_aload_n S dX6_listen_17 rfl 1 rfl ?_
  refine z_getI S fo_RX6_30 rfl h_v1 dX6_listen_18 ?_
  refine z_icmp_ge (tgt := 52) S he dX6_listen_21 (by decide) (fun he => ?_) (fun he => ?_)
  · refine z_lv (ks := [0, 1, 2, 3]) rfl ?_
    exact hx _ (Option.some.inj he).symm
  · refine z_aload_n S dX6_listen_24 rfl 1 rfl ?_
    refine z_iload_n S dX6_listen_25 rfl 2 rfl ?_
    refine z_aload_n S dX6_listen_26 rfl 0 rfl ?_
    refine z_iload_n S dX6_listen_27 rfl 2 rfl ?_
    refine z_iload S dX6_listen_28 4 rfl ?_
    refine z_cVI (As := [.int v2, .int v4]) S cv_RX6_47 (K_X6_likes  rfl) ok_82 (by decide) (q := (RX6, TX6, 4)) rfl rfl ⟨rfl, rfl⟩ ⟨Nat.le_of_ble_eq_true rfl, Nat.le_of_ble_eq_true rfl⟩ ⟨Nat.le_refl _, Nat.le_refl _⟩ rfl rfl (Nat.le_of_ble_eq_true rfl) dX6_listen_30 ?_
    refine z_cVI (As := [.int v2, .int (f_X6_likes M v2 v4)]) S cv_RX6_51 (K_X4_rings h_v1 rfl) h_v1 (by decide) (q := (RX4, TX4, 10)) rfl rfl ⟨rfl, rfl⟩ ⟨Nat.le_of_ble_eq_true rfl, Nat.le_of_ble_eq_true rfl⟩ ⟨Nat.le_refl _, Nat.le_refl _⟩ rfl rfl (Nat.le_of_ble_eq_true rfl) dX6_listen_33 ?_
    refine z_ifb_eq (tgt := 46) S he dX6_listen_36 (by decide) (fun he => ?_) (fun he => ?_)
    · refine z_iinc (v := (v4 + 1)) (lv' := [(0, .ref (X.2.2 82)), (1, .ref (X.2.2 v1)), (2, .int v2), (3, .int v3), (4, .int (v4 + 1))]) S [1, 2, 3, 4, 0] 4 dX6_listen_46 rfl (by rfl) (by decide) rfl ?_
      refine z_goto (tgt := 15) S dX6_listen_49 (by decide) ?_
      refine z_lv (ks := [0, 1, 2, 3, 4]) rfl ?_
      exact hc _ (Option.some.inj he).symm
    · refine z_iload_n S dX6_listen_39 rfl 3 rfl ?_
      refine z_iconst (v := 1) S dX6_listen_40 (by decide) ?_
      refine z_iload S dX6_listen_41 4 rfl ?_
      refine z_ishl S dX6_listen_43 ?_
      refine z_ior S dX6_listen_44 ?_
      obtain ⟨x1, ex1, he⟩ := bnd he
      rw [Option.some.inj ex1]
      refine z_istore_n (lv' := [(0, .ref (X.2.2 82)), (1, .ref (X.2.2 v1)), (2, .int v2), (3, .int x1), (4, .int v4)]) S [1, 2, 3, 0, 4] dX6_listen_45 rfl (by decide) rfl ?_
      refine z_iinc (v := (v4 + 1)) (lv' := [(0, .ref (X.2.2 82)), (1, .ref (X.2.2 v1)), (2, .int v2), (3, .int x1), (4, .int (v4 + 1))]) S [1, 2, 3, 4, 0] 4 dX6_listen_46 rfl (by rfl) (by decide) rfl ?_
      refine z_goto (tgt := 15) S dX6_listen_49 (by decide) ?_
      refine z_lv (ks := [0, 1, 2, 3, 4]) rfl ?_
      exact hc _ (Option.some.inj he).symm
set_option maxRecDepth 100000 in
set_option maxHeartbeats 4000000 in
theorem p_X6_listen_L2 {X : Cx} {p : Program} {l : Launch} {e : Env} {s : State} {m : MethodId} {args : Array Value} {below : List Frame} {meth : Method} {c : Code} (S : SB X 0 p s m args meth c cX6_listen 5 none RX6) {M : Mm} {N : Mm} {v1 : Nat} {v2 : Int32} {x : (Mm × Int32) ⊕ Mm} (h_v1 : OK 0 v1 4) (he : f_X6_listen_L2 M v1 v2 = some x) (hc : ∀ b, x = .inl b → Z X 0 p l e rm_X6_listen s m args below meth c 0 0 (MQ below (QV X 0 N s.heap.size) args s 0 0 (AA X 0 s.heap.size)) 5 b.1 2 [(0, .ref (X.2.2 82)), (1, .ref (X.2.2 v1)), (2, .int b.2)] []) (hx : ∀ b, x = .inr b → Z X 0 p l e rm_X6_listen s m args below meth c 0 0 (MQ below (QV X 0 N s.heap.size) args s 0 0 (AA X 0 s.heap.size)) 5 b 67 [] []) : Z X 0 p l e rm_X6_listen s m args below meth c 0 0 (MQ below (QV X 0 N s.heap.size) args s 0 0 (AA X 0 s.heap.size)) 5 M 2 [(0, .ref (X.2.2 82)), (1, .ref (X.2.2 v1)), (2, .int v2)] [] := by
  unfold f_X6_listen_L2 at he
  refine z_iload_n S dX6_listen_2 rfl 2 rfl ?_
  refine z_aload_n S dX6_listen_3 rfl 1 rfl ?_
  refine z_getI S fo_RX6_24 rfl h_v1 dX6_listen_4 ?_
  refine z_icmp_ge (tgt := 67) S he dX6_listen_7 (by decide) (fun he => ?_) (fun he => ?_)
  · refine z_lv (ks := []) rfl ?_
    exact hx _ (Option.some.inj he).symm
  · refine z_iconst (v := 0) S dX6_listen_10 (by decide) ?_
    refine z_istore_n (lv' := [(0, .ref (X.2.2 82)), (1, .ref (X.2.2 v1)), (2, .int v2), (3, .int 0)]) S [1, 2, 3, 0] dX6_listen_11 rfl (by decide) rfl ?_
    refine z_iconst (v := 0) S dX6_listen_12 (by decide) ?_
    refine z_istore (lv' := [(0, .ref (X.2.2 82)), (1, .ref (X.2.2 v1)), (2, .int v2), (3, .int 0), (4, .int 0)]) S [1, 2, 3, 4, 0] dX6_listen_13 (by decide) rfl ?_
    obtain ⟨e_2, hl, he⟩ := bnd he
    have hX : Z X 0 p l e rm_X6_listen s m args below meth c 0 0 (MQ below (QV X 0 N s.heap.size) args s 0 0 (AA X 0 s.heap.size)) 5 M 52 [(0, .ref (X.2.2 82)), (1, .ref (X.2.2 v1)), (2, .int v2), (3, .int e_2)] [] := by
      refine z_aload_n S dX6_listen_52 rfl 0 rfl ?_
      refine z_getF (j := 84) S fo_RX6_15 2 rfl rfl ok_82 dX6_listen_53 ?_
      refine z_iload_n S dX6_listen_56 rfl 2 rfl ?_
      refine z_iload_n S dX6_listen_57 rfl 3 rfl ?_
      obtain ⟨M3, h9, he⟩ := bnd he
      refine z_cNV (As := [.ref (X.2.2 84), .int v2, .int e_2]) S cn_RX6_39 (Kt_X9_put ok_84 (Option.some.inj h9)) ⟨rfl, rfl⟩ ⟨Nat.le_of_ble_eq_true rfl, Nat.le_of_ble_eq_true rfl⟩ ⟨Nat.le_refl _, Nat.le_refl _⟩ rfl rfl (Nat.le_of_ble_eq_true rfl) dX6_listen_58 ?_
      refine z_iinc (v := (v2 + 1)) (lv' := [(0, .ref (X.2.2 82)), (1, .ref (X.2.2 v1)), (2, .int (v2 + 1)), (3, .int e_2)]) S [1, 2, 0, 3] 2 dX6_listen_61 rfl (by rfl) (by decide) rfl ?_
      refine z_goto (tgt := 2) S dX6_listen_64 (by decide) ?_
      refine z_lv (ks := [0, 1, 2]) rfl ?_
      exact hc _ (Option.some.inj he).symm
    have hZ9 := loopZ (f := (fun a_2 => f_X6_listen_L15 M v1 v2 a_2.1 a_2.2)) (Zh := (fun a_2 => Z X 0 p l e rm_X6_listen s m args below meth c 0 0 (MQ below (QV X 0 N s.heap.size) args s 0 0 (AA X 0 s.heap.size)) 5 M 15 [(0, .ref (X.2.2 82)), (1, .ref (X.2.2 v1)), (2, .int v2), (3, .int a_2.1), (4, .int a_2.2)] [])) (fun a_2 x hb hc hr => p_X6_listen_L15 S h_v1 hb hc (fun b hxe => by rw [hr b hxe]; exact hX)) FU (0, 0) hl
    exact hZ9
set_option maxRecDepth 100000 in
set_option maxHeartbeats 4000000 in
theorem K_X6_listen {X : Cx} {l : Launch} {M : Mm} {a1 : Nat} {N : Mm} (h_a1 : OK 0 a1 4) (he : f_X6_listen M a1 = some N) : KV X 0 l yX6_listen (wz yX6_listen cX6_listen 5 none) rm_X6_listen [.ref (X.2.2 82), .ref (X.2.2 a1)] M N := by
  intro sz
  refine K_of (Qc := (fun sz => QV X 0 N sz)) (own := RX6) (lv0 := [(0, .ref (X.2.2 82)), (1, .ref (X.2.2 a1))]) (by decide +kernel) rfl (Nat.le_of_ble_eq_true rfl) rfl (fun p e s m args below meth c S => ?_) sz
  · unfold f_X6_listen at he
    refine z_iconst (v := 0) S dX6_listen_0 (by decide) ?_
    refine z_istore_n (lv' := [(0, .ref (X.2.2 82)), (1, .ref (X.2.2 a1)), (2, .int 0)]) S [1, 2, 0] dX6_listen_1 rfl (by decide) rfl ?_
    obtain ⟨e_4, hl, he⟩ := bnd he
    have hX : Z X 0 p l e rm_X6_listen s m args below meth c 0 0 (MQ below (QV X 0 N s.heap.size) args s 0 0 (AA X 0 s.heap.size)) 5 e_4 67 [] [] := by
      exact z_vret S (Option.some.inj he) dX6_listen_67
    have hZ9 := loopZ (f := (fun a_4 => f_X6_listen_L2 a_4.1 a1 a_4.2)) (Zh := (fun a_4 => Z X 0 p l e rm_X6_listen s m args below meth c 0 0 (MQ below (QV X 0 N s.heap.size) args s 0 0 (AA X 0 s.heap.size)) 5 a_4.1 2 [(0, .ref (X.2.2 82)), (1, .ref (X.2.2 a1)), (2, .int a_4.2)] [])) (fun a_4 x hb hc hr => p_X6_listen_L2 S h_a1 hb hc (fun b hxe => by rw [hr b hxe]; exact hX)) FU (M, 0) hl
    exact hZ9
