set_option maxRecDepth 100000 in
set_option maxHeartbeats 4000000 in
theorem K_X9_steps {X : Cx} {l : Launch} (hl0 : l.stackTraces = false) {M : Mm} {a1 : Int32} {rx : ((Int32 × Mm) ⊕ (Nat × Mm))}  (he : f_X9_steps M a1 = some rx) : KXI X 0 l yX9_steps (wz yX9_steps cX9_steps 2 (some .int)) rm_X9_steps 1 6 [.ref (X.2.2 1), .int a1] M rx := by
  intro sz
  refine KX_of (Qc := fun sz => QXI X 0 rx sz) (XC := fun sz => XCX X 0 rx sz) (own := RX9) (lv0 := [(0, .ref (X.2.2 1)), (1, .int a1)]) (by decide +kernel) rfl (Nat.le_of_ble_eq_true rfl) rfl (fun p e s m args below meth c S T0 => ?_) sz
  · unfold f_X9_steps at he
    refine z_iload_n S dX9_steps_0 rfl 1 rfl ?_
    refine z_iconst (v := (-1)) S dX9_steps_1 (by decide) ?_
    refine z_icmp_ne (tgt := 17) S he dX9_steps_2 (by decide) (fun he => ?_) (fun he => ?_)
    · refine z_iload_n S dX9_steps_17 rfl 1 rfl ?_
      obtain ⟨r9, h9, hr1, hr2⟩ := bndS he
      refine z_xSV (As := [.int a1]) S cs_RX9_206 (K_X9_needCell hl0  h9) ⟨rfl, rfl⟩ ⟨Nat.le_of_ble_eq_true rfl, Nat.le_of_ble_eq_true rfl⟩ ⟨Nat.le_of_ble_eq_true rfl, Nat.le_of_ble_eq_true rfl⟩ rfl rfl (Nat.le_of_ble_eq_true rfl) dX9_steps_18 T0 (by decide) (by decide) (fun q hq => Option.some.inj (hr2 q hq)) (fun e_0 hE => ?_)
      have he := hr1 _ hE
      refine z_aload_n S dX9_steps_21 rfl 0 rfl ?_
      refine z_getGb (k2 := 4) S fo_RX9_20 rfl ok_1 (by decide) he dX9_steps_22 (fun q2 hq2 he => ?_)
      refine z_iload_n S dX9_steps_25 rfl 1 rfl ?_
      refine z_cVI (As := [.int a1]) S cv_RX9_184 (Kt_X4_stepOf (okk4 hq2) rfl) (okk4 hq2) (by decide) (q := (RX4, TX4, 10)) rfl rfl ⟨rfl, rfl⟩ ⟨Nat.le_of_ble_eq_true rfl, Nat.le_of_ble_eq_true rfl⟩ ⟨Nat.le_of_ble_eq_true rfl, Nat.le_of_ble_eq_true rfl⟩ rfl rfl (Nat.le_of_ble_eq_true rfl) dX9_steps_26 ?_
      exact z_xiret S (Option.some.inj he) (by decide) (by decide) dX9_steps_29
    · refine z_aload_n S dX9_steps_5 rfl 0 rfl ?_
      refine z_getGb (k2 := 4) S fo_RX9_20 rfl ok_1 (by decide) he dX9_steps_6 (fun q3 hq3 he => ?_)
      refine z_bipush (v := 19) S dX9_steps_9 (by decide) ?_
      refine z_cVI (As := [.int 19]) S cv_RX9_184 (Kt_X4_stepOf (okk4 hq3) rfl) (okk4 hq3) (by decide) (q := (RX4, TX4, 10)) rfl rfl ⟨rfl, rfl⟩ ⟨Nat.le_of_ble_eq_true rfl, Nat.le_of_ble_eq_true rfl⟩ ⟨Nat.le_of_ble_eq_true rfl, Nat.le_of_ble_eq_true rfl⟩ rfl rfl (Nat.le_of_ble_eq_true rfl) dX9_steps_11 ?_
      refine z_iconst (v := 1) S dX9_steps_14 (by decide) ?_
      refine z_iadd S dX9_steps_15 ?_
      exact z_xiret S (Option.some.inj he) (by decide) (by decide) dX9_steps_16
set_option maxRecDepth 100000 in
set_option maxHeartbeats 4000000 in
theorem K_X9_trade {X : Cx} {l : Launch} (hl0 : l.stackTraces = false) {M : Mm} {a1 : Int32} {a2 : Int32} {rx : (Mm ⊕ (Nat × Mm))}  (he : f_X9_trade M a1 a2 = some rx) : KXV X 0 l yX9_trade (wz yX9_trade cX9_trade 3 none) rm_X9_trade 3 18 [.ref (X.2.2 1), .int a1, .int a2] M rx := by
  intro sz
  refine KX_of (Qc := fun sz => QXV X 0 rx sz) (XC := fun sz => XCX X 0 rx sz) (own := RX9) (lv0 := [(0, .ref (X.2.2 1)), (1, .int a1), (2, .int a2)]) (by decide +kernel) rfl (Nat.le_of_ble_eq_true rfl) rfl (fun p e s m args below meth c S T0 => ?_) sz
  · unfold f_X9_trade at he
    refine z_aload_n S dX9_trade_0 rfl 0 rfl ?_
    refine z_iload_n S dX9_trade_1 rfl 1 rfl ?_
    obtain ⟨r9, h9, hr1, hr2⟩ := bndS he
    refine z_xVV (As := [.int a1]) S cv_RX9_169 (K_X9_needVisitor hl0  h9) ok_1 (by decide) (q := (RX9, TX9, 17)) rfl rfl ⟨rfl, rfl⟩ ⟨Nat.le_of_ble_eq_true rfl, Nat.le_of_ble_eq_true rfl⟩ ⟨Nat.le_of_ble_eq_true rfl, Nat.le_of_ble_eq_true rfl⟩ rfl rfl (Nat.le_of_ble_eq_true rfl) dX9_trade_2 T0 (by decide) (by decide) (fun q hq => Option.some.inj (hr2 q hq)) (fun e_0 hE => ?_)
    have he := hr1 _ hE
    refine z_aload_n S dX9_trade_5 rfl 0 rfl ?_
    refine z_iload_n S dX9_trade_6 rfl 2 rfl ?_
    obtain ⟨r9, h9, hr1, hr2⟩ := bndS he
    refine z_xVV (As := [.int a2]) S cv_RX9_169 (K_X9_needVisitor hl0  h9) ok_1 (by decide) (q := (RX9, TX9, 17)) rfl rfl ⟨rfl, rfl⟩ ⟨Nat.le_of_ble_eq_true rfl, Nat.le_of_ble_eq_true rfl⟩ ⟨Nat.le_of_ble_eq_true rfl, Nat.le_of_ble_eq_true rfl⟩ rfl rfl (Nat.le_of_ble_eq_true rfl) dX9_trade_7 T0 (by decide) (by decide) (fun q hq => Option.some.inj (hr2 q hq)) (fun e_1 hE => ?_)
    have he := hr1 _ hE
    refine z_iload_n S dX9_trade_10 rfl 1 rfl ?_
    refine z_iload_n S dX9_trade_11 rfl 2 rfl ?_
    refine z_icmp_ne (tgt := 25) S he dX9_trade_12 (by decide) (fun he => ?_) (fun he => ?_)
    · refine z_aload_n S dX9_trade_25 rfl 0 rfl ?_
      obtain ⟨M3, h9, he⟩ := bnd he
      refine z_cVV (As := []) S cv_RX9_209 (K_X9_remember  h9) ok_1 (by decide) (q := (RX9, TX9, 17)) rfl rfl ⟨rfl, rfl⟩ ⟨Nat.le_of_ble_eq_true rfl, Nat.le_of_ble_eq_true rfl⟩ ⟨Nat.le_of_ble_eq_true rfl, Nat.le_of_ble_eq_true rfl⟩ rfl rfl (Nat.le_of_ble_eq_true rfl) dX9_trade_26 ?_
      refine z_aload_n S dX9_trade_29 rfl 0 rfl ?_
      refine z_getGb (k2 := 4) S fo_RX9_20 rfl ok_1 (by decide) he dX9_trade_30 (fun q4 hq4 he => ?_)
      refine z_iload_n S dX9_trade_33 rfl 1 rfl ?_
      refine z_iload_n S dX9_trade_34 rfl 2 rfl ?_
      obtain ⟨M5, h9, he⟩ := bnd he
      refine z_cVV (As := [.int a1, .int a2]) S cv_RX9_233 (K_X4_swapVisitors (okk4 hq4) h9) (okk4 hq4) (by decide) (q := (RX4, TX4, 10)) rfl rfl ⟨rfl, rfl⟩ ⟨Nat.le_of_ble_eq_true rfl, Nat.le_of_ble_eq_true rfl⟩ ⟨Nat.le_of_ble_eq_true rfl, Nat.le_of_ble_eq_true rfl⟩ rfl rfl (Nat.le_of_ble_eq_true rfl) dX9_trade_35 ?_
      exact z_xvret S (Option.some.inj he) (by decide) (by decide) dX9_trade_38
    · exact z_throw S hl0 T0 tx_RX9_114_231_118 (k := 1) rfl (Option.some.inj he) dX9_trade_15 dX9_trade_18 dX9_trade_19 dX9_trade_21 dX9_trade_24 (Nat.le_of_ble_eq_true rfl) (Nat.le_of_ble_eq_true rfl) (Nat.le_of_ble_eq_true rfl) (Nat.le_of_ble_eq_true rfl) (by decide) (by decide)
set_option maxRecDepth 100000 in
set_option maxHeartbeats 4000000 in
theorem K_X9_trial {X : Cx} {l : Launch} (hl0 : l.stackTraces = false) {M : Mm} {a1 : Int32} {rx : ((Int32 × Mm) ⊕ (Nat × Mm))}  (he : f_X9_trial M a1 = some rx) : KXI X 0 l yX9_trial (wz yX9_trial cX9_trial 2 (some .int)) rm_X9_trial 1 6 [.ref (X.2.2 1), .int a1] M rx := by
  intro sz
  refine KX_of (Qc := fun sz => QXI X 0 rx sz) (XC := fun sz => XCX X 0 rx sz) (own := RX9) (lv0 := [(0, .ref (X.2.2 1)), (1, .int a1)]) (by decide +kernel) rfl (Nat.le_of_ble_eq_true rfl) rfl (fun p e s m args below meth c S T0 => ?_) sz
  · unfold f_X9_trial at he
    refine z_iload_n S dX9_trial_0 rfl 1 rfl ?_
    obtain ⟨r9, h9, hr1, hr2⟩ := bndS he
    refine z_xSV (As := [.int a1]) S cs_RX9_326 (K_X9_needDaysAhead hl0  h9) ⟨rfl, rfl⟩ ⟨Nat.le_of_ble_eq_true rfl, Nat.le_of_ble_eq_true rfl⟩ ⟨Nat.le_of_ble_eq_true rfl, Nat.le_of_ble_eq_true rfl⟩ rfl rfl (Nat.le_of_ble_eq_true rfl) dX9_trial_1 T0 (by decide) (by decide) (fun q hq => Option.some.inj (hr2 q hq)) (fun e_0 hE => ?_)
    have he := hr1 _ hE
    refine z_aload_n S dX9_trial_4 rfl 0 rfl ?_
    refine z_getGb (k2 := 4) S fo_RX9_24 rfl ok_1 (by decide) he dX9_trial_5 (fun q2 hq2 he => ?_)
    refine z_aload_n S dX9_trial_8 rfl 0 rfl ?_
    refine z_getGb (k2 := 4) S fo_RX9_20 rfl ok_1 (by decide) he dX9_trial_9 (fun q3 hq3 he => ?_)
    obtain ⟨M4, h9, he⟩ := bnd he
    refine z_cVV (As := [.ref (X.2.2 q3)]) S cv_RX9_93 (K_X4_copyFrom (okk4 hq2) (okk4 hq3) h9) (okk4 hq2) (by decide) (q := (RX4, TX4, 10)) rfl rfl ⟨rfl, rfl⟩ ⟨Nat.le_of_ble_eq_true rfl, Nat.le_of_ble_eq_true rfl⟩ ⟨Nat.le_of_ble_eq_true rfl, Nat.le_of_ble_eq_true rfl⟩ rfl rfl (Nat.le_of_ble_eq_true rfl) dX9_trial_12 ?_
    refine z_aload_n S dX9_trial_15 rfl 0 rfl ?_
    refine z_aload_n S dX9_trial_16 rfl 0 rfl ?_
    refine z_getGb (k2 := 4) S fo_RX9_24 rfl ok_1 (by decide) he dX9_trial_17 (fun q5 hq5 he => ?_)
    refine z_iload_n S dX9_trial_20 rfl 1 rfl ?_
    obtain ⟨⟨r6, M7⟩, h9, he⟩ := bnd he
    dsimp only at he
    refine z_cVI (As := [.ref (X.2.2 q5), .int a1]) S cv_RX9_239 (K_X9_passDays (okk4 hq5) h9) ok_1 (by decide) (q := (RX9, TX9, 17)) rfl rfl ⟨rfl, rfl⟩ ⟨Nat.le_of_ble_eq_true rfl, Nat.le_of_ble_eq_true rfl⟩ ⟨Nat.le_of_ble_eq_true rfl, Nat.le_of_ble_eq_true rfl⟩ rfl rfl (Nat.le_of_ble_eq_true rfl) dX9_trial_21 ?_
    exact z_xiret S (Option.some.inj he) (by decide) (by decide) dX9_trial_24
set_option maxRecDepth 100000 in
set_option maxHeartbeats 4000000 in
theorem K_X9_undo {X : Cx} {l : Launch} {M : Mm} {r : Bool} {N : Mm}  (he : f_X9_undo M  = some (r, N)) : KI X 0 l yX9_undo (wz yX9_undo cX9_undo 1 (some .boolean)) rm_X9_undo [.ref (X.2.2 1)] M (bI r) N := by
  intro sz
  refine K_of (Qc := (fun sz => QI X 0 (bI r) N sz)) (own := RX9) (lv0 := [(0, .ref (X.2.2 1))]) (by decide +kernel) rfl (Nat.le_of_ble_eq_true rfl) rfl (fun p e s m args below meth c S => ?_) sz
  · unfold f_X9_undo at he
    refine z_aload_n S dX9_undo_0 rfl 0 rfl ?_
    refine z_getI S fo_RX9_129 rfl ok_1 dX9_undo_1 ?_
    refine z_iconst (v := 1) S dX9_undo_4 (by decide) ?_
    refine z_icmp_lt (tgt := 20) S he dX9_undo_5 (by decide) (fun he => ?_) (fun he => ?_)
    · refine z_iconst (v := 0) S dX9_undo_20 (by decide) ?_
      exact z_zret0 S (Prod.mk.inj (Option.some.inj he)) dX9_undo_21
    · refine z_aload_n S dX9_undo_8 rfl 0 rfl ?_
      refine z_getI S fo_RX9_129 rfl ok_1 dX9_undo_9 ?_
      refine z_aload_n S dX9_undo_12 rfl 0 rfl ?_
      refine z_getF (j := 3) S fo_RX9_43 2 rfl rfl ok_1 dX9_undo_13 ?_
      refine z_alen (v := 12) S ok_3 (cel_m ok_3.2.2) rfl rfl rfl dX9_undo_16 ?_
      refine z_icmp_le (tgt := 22) S he dX9_undo_17 (by decide) (fun he => ?_) (fun he => ?_)
      · refine z_aload_n S dX9_undo_22 rfl 0 rfl ?_
        refine z_dup S rfl dX9_undo_23 ?_
        refine z_getI S fo_RX9_129 rfl ok_1 dX9_undo_24 ?_
        refine z_iconst (v := 1) S dX9_undo_27 (by decide) ?_
        refine z_isub S dX9_undo_28 ?_
        refine z_putIb S fo_RX9_129p rfl ok_1 rfl rfl he dX9_undo_29 (fun M1 he => ?_)
        refine z_aload_n S dX9_undo_32 rfl 0 rfl ?_
        refine z_getGb (k2 := 4) S fo_RX9_20 rfl ok_1 (by decide) he dX9_undo_33 (fun q2 hq2 he => ?_)
        refine z_aload_n S dX9_undo_36 rfl 0 rfl ?_
        refine z_getF (j := 3) S fo_RX9_43 2 rfl rfl ok_1 dX9_undo_37 ?_
        refine z_aload_n S dX9_undo_40 rfl 0 rfl ?_
        refine z_getI S fo_RX9_129 rfl ok_1 dX9_undo_41 ?_
        refine z_mald S ok_3 rfl he dX9_undo_44 (fun q3 hq3 he => ?_)
        obtain ⟨M4, h9, he⟩ := bnd he
        refine z_cVV (As := [.ref (X.2.2 q3)]) S cv_RX9_93 (K_X4_copyFrom (okk4 hq2) (okk4 hq3) h9) (okk4 hq2) (by decide) (q := (RX4, TX4, 10)) rfl rfl ⟨rfl, rfl⟩ ⟨Nat.le_of_ble_eq_true rfl, Nat.le_of_ble_eq_true rfl⟩ ⟨Nat.le_refl _, Nat.le_refl _⟩ rfl rfl (Nat.le_of_ble_eq_true rfl) dX9_undo_45 ?_
        refine z_iconst (v := 1) S dX9_undo_48 (by decide) ?_
        exact z_zret1 S (Prod.mk.inj (Option.some.inj he)) dX9_undo_49
      · refine z_iconst (v := 0) S dX9_undo_20 (by decide) ?_
        exact z_zret0 S (Prod.mk.inj (Option.some.inj he)) dX9_undo_21
set_option maxRecDepth 100000 in
set_option maxHeartbeats 4000000 in
theorem K_X9_wants {X : Cx} {l : Launch} (hl0 : l.stackTraces = false) {M : Mm} {a1 : Int32} {rx : ((Int32 × Mm) ⊕ (Nat × Mm))}  (he : f_X9_wants M a1 = some rx) : KXI X 0 l yX9_wants (wz yX9_wants cX9_wants 5 (some .int)) rm_X9_wants 1 6 [.ref (X.2.2 1), .int a1] M rx := by
  intro sz
  refine KX_of (Qc := fun sz => QXI X 0 rx sz) (XC := fun sz => XCX X 0 rx sz) (own := RX9) (lv0 := [(0, .ref (X.2.2 1)), (1, .int a1)]) (by decide +kernel) rfl (Nat.le_of_ble_eq_true rfl) rfl (fun p e s m args below meth c S T0 => ?_) sz
  · unfold f_X9_wants at he
    refine z_aload_n S dX9_wants_0 rfl 0 rfl ?_
    obtain ⟨⟨r1, M2⟩, h9, he⟩ := bnd he
    dsimp only at he
    refine z_cVI (As := []) S cv_RX9_292 (K_X9_takeTold  h9) ok_1 (by decide) (q := (RX9, TX9, 17)) rfl rfl ⟨rfl, rfl⟩ ⟨Nat.le_of_ble_eq_true rfl, Nat.le_of_ble_eq_true rfl⟩ ⟨Nat.le_of_ble_eq_true rfl, Nat.le_of_ble_eq_true rfl⟩ rfl rfl (Nat.le_of_ble_eq_true rfl) dX9_wants_1 ?_
    refine z_istore_n (lv' := [(0, .ref (X.2.2 1)), (1, .int a1), (2, .int r1)]) S [1, 2, 0] dX9_wants_4 rfl (by decide) rfl ?_
    refine z_iload_n S dX9_wants_5 rfl 2 rfl ?_
    refine z_iconst (v := (-1)) S dX9_wants_6 (by decide) ?_
    refine z_icmp_ne (tgt := 21) S he dX9_wants_7 (by decide) (fun he => ?_) (fun he => ?_)
    · refine z_aload_n S dX9_wants_21 rfl 0 rfl ?_
      refine z_iload_n S dX9_wants_22 rfl 2 rfl ?_
      obtain ⟨r3, h9, he⟩ := bnd he
      refine z_cVL (As := [.int r1]) S cv_RX9_297 (K_X9_fittingSets  h9) ok_1 (by decide) (q := (RX9, TX9, 17)) rfl rfl ⟨rfl, rfl⟩ ⟨Nat.le_of_ble_eq_true rfl, Nat.le_of_ble_eq_true rfl⟩ ⟨Nat.le_of_ble_eq_true rfl, Nat.le_of_ble_eq_true rfl⟩ rfl rfl (Nat.le_of_ble_eq_true rfl) dX9_wants_23 ?_
      refine z_lstore_n (lv' := [(1, .int a1), (3, .long r3)]) S [2, 0] dX9_wants_26 rfl (by decide) rfl ?_
      refine z_iload_n S dX9_wants_27 rfl 0 rfl ?_
      refine z_if_eq (tgt := 38) S he dX9_wants_28 (by decide) (fun he => ?_) (fun he => ?_)
      · refine z_lload_n S dX9_wants_38 rfl 1 rfl ?_
        obtain ⟨r4, h9, he⟩ := bnd he
        refine z_cSI (As := [.long r3]) S cs_RX9_305 (K_J13_bitCount_95d88  h9) ⟨rfl, rfl⟩ ⟨Nat.le_of_ble_eq_true rfl, Nat.le_of_ble_eq_true rfl⟩ ⟨Nat.le_of_ble_eq_true rfl, Nat.le_of_ble_eq_true rfl⟩ rfl rfl (Nat.le_of_ble_eq_true rfl) dX9_wants_39 ?_
        exact z_xiret S (Option.some.inj he) (by decide) (by decide) dX9_wants_42
      · refine z_lload_n S dX9_wants_31 rfl 1 rfl ?_
        obtain ⟨r5, h9, he⟩ := bnd he
        refine z_cSI (As := [.long r3]) S cs_RX9_301 (K_X9_smallestOf  h9) ⟨rfl, rfl⟩ ⟨Nat.le_of_ble_eq_true rfl, Nat.le_of_ble_eq_true rfl⟩ ⟨Nat.le_of_ble_eq_true rfl, Nat.le_of_ble_eq_true rfl⟩ rfl rfl (Nat.le_of_ble_eq_true rfl) dX9_wants_32 ?_
        refine z_goto (tgt := 42) S dX9_wants_35 (by decide) ?_
        exact z_xiret S (Option.some.inj he) (by decide) (by decide) dX9_wants_42
    · exact z_throwW S hl0 T0 tx_RX9_114_295_118 (k := 1) rfl (Option.some.inj he) dX9_wants_10 dX9_wants_13 dX9_wants_14 dX9_wants_17 dX9_wants_20 (Nat.le_of_ble_eq_true rfl) (Nat.le_of_ble_eq_true rfl) (Nat.le_of_ble_eq_true rfl) (Nat.le_of_ble_eq_true rfl) (by decide) (by decide)
