set_option maxRecDepth 100000 in
set_option maxHeartbeats 4000000 in
theorem p_X10_log_J15 {X : Cx} {p : Program} {l : Launch} {e : Env} {s : State} {m : MethodId} {args : Array Value} {below : List Frame} {meth : Method} {c : Code} (S : SB X 1 p s m args meth c cX10_log 3 (some .int) RX10) {M : Mm} {N : Mm} {r : Int32} {v1 : Int32} {v2 : Int32} {t0 : Int32}  (he : f_X10_log_J15 M v1 v2 t0 = some (r, N)) : Z X 1 p l e rm_X10_log s m args below meth c 0 0 (MQ below (QI X 1 r N s.heap.size) args s 0 0 (AA X 1 s.heap.size)) 3 M 15 [(0, .ref (X.2.2 200)), (1, .int v1), (2, .int v2)] [.int t0, .ref (X.2.2 200)] := by
  unfold f_X10_log_J15 at he
  refine z_putIb S fo_RX10_63p rfl ok_200 rfl rfl he dX10_log_15 (fun M1 he => ?_)
  refine z_aload_n S dX10_log_18 rfl 0 rfl ?_
  refine z_getI S fo_RX10_63 rfl ok_200 dX10_log_19 ?_
  refine z_if_le (tgt := 27) S he dX10_log_22 (by decide) (fun he => ?_) (fun he => ?_)
  · refine z_iload_n S dX10_log_27 rfl 1 rfl ?_
    refine z_iconst (v := 0) S dX10_log_28 (by decide) ?_
    refine z_aload_n S dX10_log_29 rfl 0 rfl ?_
    refine z_getF (j := 201) S fo_RX10_7 1 rfl rfl ok_200 dX10_log_30 ?_
    refine z_bipush (v := 8) S dX10_log_33 (by decide) ?_
    refine z_iald S ok_201 rfl he dX10_log_35 (fun he => ?_)
    refine z_iconst (v := 1) S dX10_log_36 (by decide) ?_
    refine z_isub S dX10_log_37 ?_
    refine z_cSI (As := [.int v1, .int 0, .int ((gA M1 201 8) - 1)]) S cs_RX10_66 (K_X10_isIn  rfl) ⟨rfl, rfl⟩ ⟨Nat.le_of_ble_eq_true rfl, Nat.le_of_ble_eq_true rfl⟩ ⟨Nat.le_refl _, Nat.le_refl _⟩ rfl rfl (Nat.le_of_ble_eq_true rfl) dX10_log_38 ?_
    refine z_ifb_eq (tgt := 53) S he dX10_log_41 (by decide) (fun he => ?_) (fun he => ?_)
    · refine z_iconst (v := (-1)) S dX10_log_53 (by decide) ?_
      exact z_iret S (Prod.mk.inj (Option.some.inj he)) dX10_log_54
    · refine z_aload_n S dX10_log_44 rfl 0 rfl ?_
      refine z_iload_n S dX10_log_45 rfl 1 rfl ?_
      refine z_iload_n S dX10_log_46 rfl 2 rfl ?_
      obtain ⟨r2, h9, he⟩ := bnd he
      refine z_cVI (As := [.int v1, .int v2]) S cv_RX10_345 (K_X10_logged  h9) ok_200 (by decide) (q := (RX10, TX10, 28)) rfl rfl ⟨rfl, rfl⟩ ⟨Nat.le_of_ble_eq_true rfl, Nat.le_of_ble_eq_true rfl⟩ ⟨Nat.le_refl _, Nat.le_refl _⟩ rfl rfl (Nat.le_of_ble_eq_true rfl) dX10_log_47 ?_
      refine z_goto (tgt := 54) S dX10_log_50 (by decide) ?_
      exact z_iret S (Prod.mk.inj (Option.some.inj he)) dX10_log_54
  · refine z_iconst (v := 0) S dX10_log_25 (by decide) ?_
    exact z_iret S (Prod.mk.inj (Option.some.inj he)) dX10_log_26
set_option maxRecDepth 100000 in
set_option maxHeartbeats 4000000 in
theorem K_X10_log {X : Cx} {l : Launch} {M : Mm} {a1 : Int32} {a2 : Int32} {r : Int32} {N : Mm}  (he : f_X10_log M a1 a2 = some (r, N)) : KI X 1 l yX10_log (wz yX10_log cX10_log 3 (some .int)) rm_X10_log [.ref (X.2.2 200), .int a1, .int a2] M r N := by
  intro sz
  refine K_of (Qc := (fun sz => QI X 1 r N sz)) (own := RX10) (lv0 := [(0, .ref (X.2.2 200)), (1, .int a1), (2, .int a2)]) (by decide +kernel) rfl (Nat.le_of_ble_eq_true rfl) rfl (fun p e s m args below meth c S => ?_) sz
  · unfold f_X10_log at he
    refine z_aload_n S dX10_log_0 rfl 0 rfl ?_
    refine z_iload_n S dX10_log_1 rfl 2 rfl ?_
    refine z_iconst (v := 0) S dX10_log_2 (by decide) ?_
    refine z_iconst (v := 4) S dX10_log_3 (by decide) ?_
    refine z_cSI (As := [.int a2, .int 0, .int 4]) S cs_RX10_66 (K_X10_isIn  rfl) ⟨rfl, rfl⟩ ⟨Nat.le_of_ble_eq_true rfl, Nat.le_of_ble_eq_true rfl⟩ ⟨Nat.le_refl _, Nat.le_refl _⟩ rfl rfl (Nat.le_of_ble_eq_true rfl) dX10_log_4 ?_
    refine z_ifb_ne (tgt := 14) S he dX10_log_7 (by decide) (fun he => ?_) (fun he => ?_)
    · refine z_iconst (v := 0) S dX10_log_14 (by decide) ?_
      exact p_X10_log_J15 S  he
    · refine z_iconst (v := 1) S dX10_log_10 (by decide) ?_
      refine z_goto (tgt := 15) S dX10_log_11 (by decide) ?_
      exact p_X10_log_J15 S  he
set_option maxRecDepth 100000 in
set_option maxHeartbeats 4000000 in
theorem p_X10_mark_J80 {X : Cx} {p : Program} {l : Launch} {e : Env} {s : State} {m : MethodId} {args : Array Value} {below : List Frame} {meth : Method} {c : Code} (S : SB X 1 p s m args meth c cX10_mark 5 (some .boolean) RX10) {M : Mm} {N : Mm} {r : Bool} {v1 : Int32} {v4 : Int32} {t0 : Int32} {t1 : Int32}  (he : f_X10_mark_J80 M v1 v4 t0 t1 = some (r, N)) : Z X 1 p l e rm_X10_mark s m args below meth c 0 0 (MQ below (QI X 1 (bI r) N s.heap.size) args s 0 0 (AA X 1 s.heap.size)) 5 M 80 [(0, .ref (X.2.2 200)), (1, .int v1), (4, .int v4)] [.int t0, .int t1, .ref (X.2.2 201)] := by
  unfold f_X10_mark_J80 at he
  refine z_iastb S ok_201 rfl he dX10_mark_80 (fun M5 he => ?_)
  refine z_iload S dX10_mark_81 2 rfl ?_
  refine z_aload_n S dX10_mark_83 rfl 0 rfl ?_
  refine z_iload_n S dX10_mark_84 rfl 1 rfl ?_
  refine z_iconst (v := 4) S dX10_mark_85 (by decide) ?_
  obtain ⟨r6, h9, he⟩ := bnd he
  refine z_cVI (As := [.int v1, .int 4]) S cv_RX10_246 (K_X10_ofOne  h9) ok_200 (by decide) (q := (RX10, TX10, 28)) rfl rfl ⟨rfl, rfl⟩ ⟨Nat.le_of_ble_eq_true rfl, Nat.le_of_ble_eq_true rfl⟩ ⟨Nat.le_refl _, Nat.le_refl _⟩ rfl rfl (Nat.le_of_ble_eq_true rfl) dX10_mark_86 ?_
  refine z_icmp_eq (tgt := 96) S he dX10_mark_89 (by decide) (fun he => ?_) (fun he => ?_)
  · refine z_iconst (v := 0) S dX10_mark_96 (by decide) ?_
    exact z_zret0 S (Prod.mk.inj (Option.some.inj he)) dX10_mark_97
  · refine z_iconst (v := 1) S dX10_mark_92 (by decide) ?_
    refine z_goto (tgt := 97) S dX10_mark_93 (by decide) ?_
    exact z_zret1 S (Prod.mk.inj (Option.some.inj he)) dX10_mark_97
set_option maxRecDepth 100000 in
set_option maxHeartbeats 4000000 in
theorem p_X10_mark_J23 {X : Cx} {p : Program} {l : Launch} {e : Env} {s : State} {m : MethodId} {args : Array Value} {below : List Frame} {meth : Method} {c : Code} (S : SB X 1 p s m args meth c cX10_mark 5 (some .boolean) RX10) {M : Mm} {N : Mm} {r : Bool} {v1 : Int32} {v2 : Int32} {v3 : Int32} {t0 : Int32}  (he : f_X10_mark_J23 M v1 v2 v3 t0 = some (r, N)) : Z X 1 p l e rm_X10_mark s m args below meth c 0 0 (MQ below (QI X 1 (bI r) N s.heap.size) args s 0 0 (AA X 1 s.heap.size)) 5 M 23 [(0, .ref (X.2.2 200)), (1, .int v1), (2, .int v2), (3, .int v3)] [.int t0, .ref (X.2.2 200)] := by
  unfold f_X10_mark_J23 at he
  refine z_putIb S fo_RX10_63p rfl ok_200 rfl rfl he dX10_mark_23 (fun M2 he => ?_)
  refine z_aload_n S dX10_mark_26 rfl 0 rfl ?_
  refine z_getI S fo_RX10_63 rfl ok_200 dX10_mark_27 ?_
  refine z_if_le (tgt := 35) S he dX10_mark_30 (by decide) (fun he => ?_) (fun he => ?_)
  · refine z_aload_n S dX10_mark_35 rfl 0 rfl ?_
    obtain ⟨M3, h9, he⟩ := bnd he
    refine z_cVV (As := []) S cv_RX10_306 (K_X10_remembers  h9) ok_200 (by decide) (q := (RX10, TX10, 28)) rfl rfl ⟨rfl, rfl⟩ ⟨Nat.le_of_ble_eq_true rfl, Nat.le_of_ble_eq_true rfl⟩ ⟨Nat.le_refl _, Nat.le_refl _⟩ rfl rfl (Nat.le_of_ble_eq_true rfl) dX10_mark_36 ?_
    refine z_aload_n S dX10_mark_39 rfl 0 rfl ?_
    refine z_iload_n S dX10_mark_40 rfl 1 rfl ?_
    refine z_iconst (v := 4) S dX10_mark_41 (by decide) ?_
    obtain ⟨r4, h9, he⟩ := bnd he
    refine z_cVI (As := [.int v1, .int 4]) S cv_RX10_246 (K_X10_ofOne  h9) ok_200 (by decide) (q := (RX10, TX10, 28)) rfl rfl ⟨rfl, rfl⟩ ⟨Nat.le_of_ble_eq_true rfl, Nat.le_of_ble_eq_true rfl⟩ ⟨Nat.le_refl _, Nat.le_refl _⟩ rfl rfl (Nat.le_of_ble_eq_true rfl) dX10_mark_42 ?_
    refine z_istore (lv' := [(0, .ref (X.2.2 200)), (1, .int v1), (2, .int v2), (3, .int v3), (4, .int r4)]) S [1, 2, 3, 4, 0] dX10_mark_45 (by decide) rfl ?_
    refine z_aload_n S dX10_mark_47 rfl 0 rfl ?_
    refine z_getF (j := 201) S fo_RX10_7 1 rfl rfl ok_200 dX10_mark_48 ?_
    refine z_bipush (v := 57) S dX10_mark_51 (by decide) ?_
    refine z_iconst (v := 5) S dX10_mark_53 (by decide) ?_
    refine z_iload_n S dX10_mark_54 rfl 1 rfl ?_
    refine z_imul S dX10_mark_55 ?_
    refine z_iadd S dX10_mark_56 ?_
    refine z_iconst (v := 4) S dX10_mark_57 (by decide) ?_
    refine z_iadd S dX10_mark_58 ?_
    refine z_iload_n S dX10_mark_59 rfl 3 rfl ?_
    refine z_if_eq (tgt := 72) S he dX10_mark_60 (by decide) (fun he => ?_) (fun he => ?_)
    · refine z_iload S dX10_mark_72 4 rfl ?_
      refine z_iconst (v := 1) S dX10_mark_74 (by decide) ?_
      refine z_iload_n S dX10_mark_75 rfl 2 rfl ?_
      refine z_ishl S dX10_mark_76 ?_
      refine z_iconst (v := (-1)) S dX10_mark_77 (by decide) ?_
      refine z_ixor S dX10_mark_78 ?_
      refine z_iand S dX10_mark_79 ?_
      refine z_lv (ks := [0, 1, 4]) rfl ?_
      exact p_X10_mark_J80 S  he
    · refine z_iload S dX10_mark_63 4 rfl ?_
      refine z_iconst (v := 1) S dX10_mark_65 (by decide) ?_
      refine z_iload_n S dX10_mark_66 rfl 2 rfl ?_
      refine z_ishl S dX10_mark_67 ?_
      refine z_ior S dX10_mark_68 ?_
      refine z_goto (tgt := 80) S dX10_mark_69 (by decide) ?_
      refine z_lv (ks := [0, 1, 4]) rfl ?_
      exact p_X10_mark_J80 S  he
  · refine z_iconst (v := 0) S dX10_mark_33 (by decide) ?_
    exact z_zret0 S (Prod.mk.inj (Option.some.inj he)) dX10_mark_34
set_option maxRecDepth 100000 in
set_option maxHeartbeats 4000000 in
theorem p_X10_mark_J18 {X : Cx} {p : Program} {l : Launch} {e : Env} {s : State} {m : MethodId} {args : Array Value} {below : List Frame} {meth : Method} {c : Code} (S : SB X 1 p s m args meth c cX10_mark 5 (some .boolean) RX10) {M : Mm} {N : Mm} {r : Bool} {v1 : Int32} {v2 : Int32} {v3 : Int32}  (he : f_X10_mark_J18 M v1 v2 v3 = some (r, N)) : Z X 1 p l e rm_X10_mark s m args below meth c 0 0 (MQ below (QI X 1 (bI r) N s.heap.size) args s 0 0 (AA X 1 s.heap.size)) 5 M 18 [(0, .ref (X.2.2 200)), (1, .int v1), (2, .int v2), (3, .int v3)] [.ref (X.2.2 200)] := by
  unfold f_X10_mark_J18 at he
  refine z_iconst (v := 1) S dX10_mark_18 (by decide) ?_
  refine z_goto (tgt := 23) S dX10_mark_19 (by decide) ?_
  exact p_X10_mark_J23 S  he
set_option maxRecDepth 100000 in
set_option maxHeartbeats 4000000 in
theorem K_X10_mark {X : Cx} {l : Launch} {M : Mm} {a1 : Int32} {a2 : Int32} {a3 : Int32} {r : Bool} {N : Mm}  (he : f_X10_mark M a1 a2 a3 = some (r, N)) : KI X 1 l yX10_mark (wz yX10_mark cX10_mark 5 (some .boolean)) rm_X10_mark [.ref (X.2.2 200), .int a1, .int a2, .int a3] M (bI r) N := by
  intro sz
  refine K_of (Qc := (fun sz => QI X 1 (bI r) N sz)) (own := RX10) (lv0 := [(0, .ref (X.2.2 200)), (1, .int a1), (2, .int a2), (3, .int a3)]) (by decide +kernel) rfl (Nat.le_of_ble_eq_true rfl) rfl (fun p e s m args below meth c S => ?_) sz
  · unfold f_X10_mark at he
    refine z_aload_n S dX10_mark_0 rfl 0 rfl ?_
    refine z_aload_n S dX10_mark_1 rfl 0 rfl ?_
    refine z_iload_n S dX10_mark_2 rfl 1 rfl ?_
    obtain ⟨r1, h9, he⟩ := bnd he
    refine z_cVI (As := [.int a1]) S cv_RX10_300 (K_X10_isVisitor  h9) ok_200 (by decide) (q := (RX10, TX10, 28)) rfl rfl ⟨rfl, rfl⟩ ⟨Nat.le_of_ble_eq_true rfl, Nat.le_of_ble_eq_true rfl⟩ ⟨Nat.le_refl _, Nat.le_refl _⟩ rfl rfl (Nat.le_of_ble_eq_true rfl) dX10_mark_3 ?_
    refine z_ifb_eq (tgt := 18) S he dX10_mark_6 (by decide) (fun he => ?_) (fun he => ?_)
    · exact p_X10_mark_J18 S  he
    · refine z_iload_n S dX10_mark_9 rfl 2 rfl ?_
      refine z_iconst (v := 0) S dX10_mark_10 (by decide) ?_
      refine z_iconst (v := 5) S dX10_mark_11 (by decide) ?_
      refine z_cSI (As := [.int a2, .int 0, .int 5]) S cs_RX10_66 (K_X10_isIn  rfl) ⟨rfl, rfl⟩ ⟨Nat.le_of_ble_eq_true rfl, Nat.le_of_ble_eq_true rfl⟩ ⟨Nat.le_refl _, Nat.le_refl _⟩ rfl rfl (Nat.le_of_ble_eq_true rfl) dX10_mark_12 ?_
      refine z_ifb_ne (tgt := 22) S he dX10_mark_15 (by decide) (fun he => ?_) (fun he => ?_)
      · refine z_iconst (v := 0) S dX10_mark_22 (by decide) ?_
        exact p_X10_mark_J23 S  he
      · exact p_X10_mark_J18 S  he
set_option maxRecDepth 100000 in
set_option maxHeartbeats 4000000 in
theorem p_X10_move_J77 {X : Cx} {p : Program} {l : Launch} {e : Env} {s : State} {m : MethodId} {args : Array Value} {below : List Frame} {meth : Method} {c : Code} (S : SB X 1 p s m args meth c cX10_move 4 (some .int) RX10) {M : Mm} {N : Mm} {r : Int32} {v1 : Int32} {v2 : Int32} {v3 : Int32}  (he : f_X10_move_J77 M v1 v2 v3 = some (r, N)) : Z X 1 p l e rm_X10_move s m args below meth c 0 0 (MQ below (QI X 1 r N s.heap.size) args s 0 0 (AA X 1 s.heap.size)) 4 M 77 [(0, .ref (X.2.2 200)), (1, .int v1), (2, .int v2), (3, .int v3)] [] := by
  unfold f_X10_move_J77 at he
  refine z_aload_n S dX10_move_77 rfl 0 rfl ?_
  refine z_getF (j := 201) S fo_RX10_7 1 rfl rfl ok_200 dX10_move_78 ?_
  refine z_bipush (v := 12) S dX10_move_81 (by decide) ?_
  refine z_iconst (v := 5) S dX10_move_83 (by decide) ?_
  refine z_iload_n S dX10_move_84 rfl 1 rfl ?_
  refine z_imul S dX10_move_85 ?_
  refine z_iadd S dX10_move_86 ?_
  refine z_iconst (v := 0) S dX10_move_87 (by decide) ?_
  refine z_iadd S dX10_move_88 ?_
  refine z_iload_n S dX10_move_89 rfl 2 rfl ?_
  refine z_iastb S ok_201 rfl he dX10_move_90 (fun M5 he => ?_)
  refine z_iload_n S dX10_move_91 rfl 3 rfl ?_
  exact z_iret S (Prod.mk.inj (Option.some.inj he)) dX10_move_92
set_option maxRecDepth 100000 in
set_option maxHeartbeats 4000000 in
theorem p_X10_move_J24 {X : Cx} {p : Program} {l : Launch} {e : Env} {s : State} {m : MethodId} {args : Array Value} {below : List Frame} {meth : Method} {c : Code} (S : SB X 1 p s m args meth c cX10_move 4 (some .int) RX10) {M : Mm} {N : Mm} {r : Int32} {v1 : Int32} {v2 : Int32} {t0 : Int32}  (he : f_X10_move_J24 M v1 v2 t0 = some (r, N)) : Z X 1 p l e rm_X10_move s m args below meth c 0 0 (MQ below (QI X 1 r N s.heap.size) args s 0 0 (AA X 1 s.heap.size)) 4 M 24 [(0, .ref (X.2.2 200)), (1, .int v1), (2, .int v2)] [.int t0, .ref (X.2.2 200)] := by
  unfold f_X10_move_J24 at he
  refine z_putIb S fo_RX10_63p rfl ok_200 rfl rfl he dX10_move_24 (fun M2 he => ?_)
  refine z_aload_n S dX10_move_27 rfl 0 rfl ?_
  refine z_getI S fo_RX10_63 rfl ok_200 dX10_move_28 ?_
  refine z_if_le (tgt := 36) S he dX10_move_31 (by decide) (fun he => ?_) (fun he => ?_)
  · refine z_aload_n S dX10_move_36 rfl 0 rfl ?_
    obtain ⟨M3, h9, he⟩ := bnd he
    refine z_cVV (As := []) S cv_RX10_306 (K_X10_remembers  h9) ok_200 (by decide) (q := (RX10, TX10, 28)) rfl rfl ⟨rfl, rfl⟩ ⟨Nat.le_of_ble_eq_true rfl, Nat.le_of_ble_eq_true rfl⟩ ⟨Nat.le_refl _, Nat.le_refl _⟩ rfl rfl (Nat.le_of_ble_eq_true rfl) dX10_move_37 ?_
    refine z_aload_n S dX10_move_40 rfl 0 rfl ?_
    refine z_iload_n S dX10_move_41 rfl 2 rfl ?_
    obtain ⟨r4, h9, he⟩ := bnd he
    refine z_cVI (As := [.int v2]) S cv_RX10_122 (K_X10_thingAt  h9) ok_200 (by decide) (q := (RX10, TX10, 28)) rfl rfl ⟨rfl, rfl⟩ ⟨Nat.le_of_ble_eq_true rfl, Nat.le_of_ble_eq_true rfl⟩ ⟨Nat.le_refl _, Nat.le_refl _⟩ rfl rfl (Nat.le_of_ble_eq_true rfl) dX10_move_42 ?_
    refine z_istore_n (lv' := [(0, .ref (X.2.2 200)), (1, .int v1), (2, .int v2), (3, .int r4)]) S [1, 2, 3, 0] dX10_move_45 rfl (by decide) rfl ?_
    refine z_iload_n S dX10_move_46 rfl 3 rfl ?_
    refine z_iload_n S dX10_move_47 rfl 1 rfl ?_
    refine z_icmp_ne (tgt := 53) S he dX10_move_48 (by decide) (fun he => ?_) (fun he => ?_)
    · refine z_iload_n S dX10_move_53 rfl 3 rfl ?_
      refine z_iconst (v := (-1)) S dX10_move_54 (by decide) ?_
      refine z_icmp_eq (tgt := 77) S he dX10_move_55 (by decide) (fun he => ?_) (fun he => ?_)
      · exact p_X10_move_J77 S  he
      · refine z_aload_n S dX10_move_58 rfl 0 rfl ?_
        refine z_getF (j := 201) S fo_RX10_7 1 rfl rfl ok_200 dX10_move_59 ?_
        refine z_bipush (v := 12) S dX10_move_62 (by decide) ?_
        refine z_iconst (v := 5) S dX10_move_64 (by decide) ?_
        refine z_iload_n S dX10_move_65 rfl 3 rfl ?_
        refine z_imul S dX10_move_66 ?_
        refine z_iadd S dX10_move_67 ?_
        refine z_iconst (v := 0) S dX10_move_68 (by decide) ?_
        refine z_iadd S dX10_move_69 ?_
        refine z_aload_n S dX10_move_70 rfl 0 rfl ?_
        refine z_iload_n S dX10_move_71 rfl 1 rfl ?_
        refine z_iconst (v := 0) S dX10_move_72 (by decide) ?_
        obtain ⟨r6, h9, he⟩ := bnd he
        refine z_cVI (As := [.int v1, .int 0]) S cv_RX10_70 (K_X10_of  h9) ok_200 (by decide) (q := (RX10, TX10, 28)) rfl rfl ⟨rfl, rfl⟩ ⟨Nat.le_of_ble_eq_true rfl, Nat.le_of_ble_eq_true rfl⟩ ⟨Nat.le_refl _, Nat.le_refl _⟩ rfl rfl (Nat.le_of_ble_eq_true rfl) dX10_move_73 ?_
        refine z_iastb S ok_201 rfl he dX10_move_76 (fun M7 he => ?_)
        exact p_X10_move_J77 S  he
    · refine z_iconst (v := (-1)) S dX10_move_51 (by decide) ?_
      exact z_iret S (Prod.mk.inj (Option.some.inj he)) dX10_move_52
  · refine z_iconst (v := 0) S dX10_move_34 (by decide) ?_
    exact z_iret S (Prod.mk.inj (Option.some.inj he)) dX10_move_35
set_option maxRecDepth 100000 in
set_option maxHeartbeats 4000000 in
theorem p_X10_move_J19 {X : Cx} {p : Program} {l : Launch} {e : Env} {s : State} {m : MethodId} {args : Array Value} {below : List Frame} {meth : Method} {c : Code} (S : SB X 1 p s m args meth c cX10_move 4 (some .int) RX10) {M : Mm} {N : Mm} {r : Int32} {v1 : Int32} {v2 : Int32}  (he : f_X10_move_J19 M v1 v2 = some (r, N)) : Z X 1 p l e rm_X10_move s m args below meth c 0 0 (MQ below (QI X 1 r N s.heap.size) args s 0 0 (AA X 1 s.heap.size)) 4 M 19 [(0, .ref (X.2.2 200)), (1, .int v1), (2, .int v2)] [.ref (X.2.2 200)] := by
  unfold f_X10_move_J19 at he
  refine z_iconst (v := 1) S dX10_move_19 (by decide) ?_
  refine z_goto (tgt := 24) S dX10_move_20 (by decide) ?_
  exact p_X10_move_J24 S  he
set_option maxRecDepth 100000 in
set_option maxHeartbeats 4000000 in
theorem K_X10_move {X : Cx} {l : Launch} {M : Mm} {a1 : Int32} {a2 : Int32} {r : Int32} {N : Mm}  (he : f_X10_move M a1 a2 = some (r, N)) : KI X 1 l yX10_move (wz yX10_move cX10_move 4 (some .int)) rm_X10_move [.ref (X.2.2 200), .int a1, .int a2] M r N := by
  intro sz
  refine K_of (Qc := (fun sz => QI X 1 r N sz)) (own := RX10) (lv0 := [(0, .ref (X.2.2 200)), (1, .int a1), (2, .int a2)]) (by decide +kernel) rfl (Nat.le_of_ble_eq_true rfl) rfl (fun p e s m args below meth c S => ?_) sz
  · unfold f_X10_move at he
    refine z_aload_n S dX10_move_0 rfl 0 rfl ?_
    refine z_aload_n S dX10_move_1 rfl 0 rfl ?_
    refine z_iload_n S dX10_move_2 rfl 1 rfl ?_
    obtain ⟨r1, h9, he⟩ := bnd he
    refine z_cVI (As := [.int a1]) S cv_RX10_285 (K_X10_isThing  h9) ok_200 (by decide) (q := (RX10, TX10, 28)) rfl rfl ⟨rfl, rfl⟩ ⟨Nat.le_of_ble_eq_true rfl, Nat.le_of_ble_eq_true rfl⟩ ⟨Nat.le_refl _, Nat.le_refl _⟩ rfl rfl (Nat.le_of_ble_eq_true rfl) dX10_move_3 ?_
    refine z_ifb_eq (tgt := 19) S he dX10_move_6 (by decide) (fun he => ?_) (fun he => ?_)
    · exact p_X10_move_J19 S  he
    · refine z_iload_n S dX10_move_9 rfl 2 rfl ?_
      refine z_iconst (v := 0) S dX10_move_10 (by decide) ?_
      refine z_bipush (v := 19) S dX10_move_11 (by decide) ?_
      refine z_cSI (As := [.int a2, .int 0, .int 19]) S cs_RX10_66 (K_X10_isIn  rfl) ⟨rfl, rfl⟩ ⟨Nat.le_of_ble_eq_true rfl, Nat.le_of_ble_eq_true rfl⟩ ⟨Nat.le_refl _, Nat.le_refl _⟩ rfl rfl (Nat.le_of_ble_eq_true rfl) dX10_move_13 ?_
      refine z_ifb_ne (tgt := 23) S he dX10_move_16 (by decide) (fun he => ?_) (fun he => ?_)
      · refine z_iconst (v := 0) S dX10_move_23 (by decide) ?_
        exact p_X10_move_J24 S  he
      · exact p_X10_move_J19 S  he
set_option maxRecDepth 100000 in
set_option maxHeartbeats 4000000 in
theorem K_X10_seed {X : Cx} {l : Launch} {M : Mm} {a1 : Int32} {r : Int32} {N : Mm}  (he : f_X10_seed M a1 = some (r, N)) : KI X 1 l yX10_seed (wz yX10_seed cX10_seed 3 (some .int)) rm_X10_seed [.ref (X.2.2 200), .int a1] M r N := by
  intro sz
  refine K_of (Qc := (fun sz => QI X 1 r N sz)) (own := RX10) (lv0 := [(0, .ref (X.2.2 200)), (1, .int a1)]) (by decide +kernel) rfl (Nat.le_of_ble_eq_true rfl) rfl (fun p e s m args below meth c S => ?_) sz
  · unfold f_X10_seed at he
    refine z_aload_n S dX10_seed_0 rfl 0 rfl ?_
    refine z_iconst (v := 0) S dX10_seed_1 (by decide) ?_
    refine z_putIb S fo_RX10_63p rfl ok_200 rfl rfl he dX10_seed_2 (fun M1 he => ?_)
    refine z_aload_n S dX10_seed_5 rfl 0 rfl ?_
    refine z_getF (j := 201) S fo_RX10_7 1 rfl rfl ok_200 dX10_seed_6 ?_
    refine z_bipush (v := 9) S dX10_seed_9 (by decide) ?_
    refine z_iald S ok_201 rfl he dX10_seed_11 (fun he => ?_)
    refine z_istore_n (lv' := [(0, .ref (X.2.2 200)), (1, .int a1), (2, .int (gA M1 201 9))]) S [1, 2, 0] dX10_seed_12 rfl (by decide) rfl ?_
    refine z_aload_n S dX10_seed_13 rfl 0 rfl ?_
    refine z_getF (j := 201) S fo_RX10_7 1 rfl rfl ok_200 dX10_seed_14 ?_
    refine z_bipush (v := 9) S dX10_seed_17 (by decide) ?_
    refine z_iload_n S dX10_seed_19 rfl 1 rfl ?_
    refine z_iastb S ok_201 rfl he dX10_seed_20 (fun M2 he => ?_)
    refine z_iload_n S dX10_seed_21 rfl 2 rfl ?_
    exact z_iret S (Prod.mk.inj (Option.some.inj he)) dX10_seed_22
set_option maxRecDepth 100000 in
set_option maxHeartbeats 4000000 in
theorem p_X10_wanted_J30_61 {X : Cx} {p : Program} {l : Launch} {e : Env} {s : State} {m : MethodId} {args : Array Value} {below : List Frame} {meth : Method} {c : Code} (S : SB X 1 p s m args meth c cX10_wanted 6 (some .int) RX10) {M : Mm} {N : Mm} {r : Int32} {v1 : Int32} {v3 : Int32} {t0 : Int32} {t1 : Int32} {x : (Int32 × Int32) ⊕ Int32}  (he : f_X10_wanted_J30_61 M v1 v3 t0 t1 = some x) (hc : ∀ b, x = .inl b → Z X 1 p l e rm_X10_wanted s m args below meth c 0 0 (MQ below (QI X 1 r N s.heap.size) args s 0 0 (AA X 1 s.heap.size)) 6 M 30 [(0, .ref (X.2.2 200)), (1, .int v1), (2, .int b.1), (3, .int b.2)] []) (hx : ∀ b, x = .inr b → Z X 1 p l e rm_X10_wanted s m args below meth c 0 0 (MQ below (QI X 1 r N s.heap.size) args s 0 0 (AA X 1 s.heap.size)) 6 M 76 [(0, .ref (X.2.2 200)), (1, .int v1), (2, .int b)] []) : Z X 1 p l e rm_X10_wanted s m args below meth c 0 0 (MQ below (QI X 1 r N s.heap.size) args s 0 0 (AA X 1 s.heap.size)) 6 M 61 [(0, .ref (X.2.2 200)), (1, .int v1), (3, .int v3)] [.int t0, .int t1] := by
  unfold f_X10_wanted_J30_61 at he
  refine z_icmp_ge (tgt := 68) S he dX10_wanted_61 (by decide) (fun he => ?_) (fun he => ?_)
  · refine z_iconst (v := 0) S dX10_wanted_68 (by decide) ?_
    refine z_istore_n (lv' := [(0, .ref (X.2.2 200)), (1, .int v1), (2, .int 0), (3, .int v3)]) S [1, 2, 0, 3] dX10_wanted_69 rfl (by decide) rfl ?_
    refine z_iinc (v := (v3 + 1)) (lv' := [(0, .ref (X.2.2 200)), (1, .int v1), (2, .int 0), (3, .int (v3 + 1))]) S [1, 2, 3, 0] 3 dX10_wanted_70 rfl (by rfl) (by decide) rfl ?_
    refine z_goto (tgt := 30) S dX10_wanted_73 (by decide) ?_
    refine z_lv (ks := [0, 1, 2, 3]) rfl ?_
    exact hc _ (Option.some.inj he).symm
  · refine z_iconst (v := 1) S dX10_wanted_64 (by decide) ?_
    refine z_goto (tgt := 69) S dX10_wanted_65 (by decide) ?_
    refine z_istore_n (lv' := [(0, .ref (X.2.2 200)), (1, .int v1), (2, .int 1), (3, .int v3)]) S [1, 2, 0, 3] dX10_wanted_69 rfl (by decide) rfl ?_
    refine z_iinc (v := (v3 + 1)) (lv' := [(0, .ref (X.2.2 200)), (1, .int v1), (2, .int 1), (3, .int (v3 + 1))]) S [1, 2, 3, 0] 3 dX10_wanted_70 rfl (by rfl) (by decide) rfl ?_
    refine z_goto (tgt := 30) S dX10_wanted_73 (by decide) ?_
    refine z_lv (ks := [0, 1, 2, 3]) rfl ?_
    exact hc _ (Option.some.inj he).symm
set_option maxRecDepth 100000 in
set_option maxHeartbeats 4000000 in
theorem p_X10_wanted_L30 {X : Cx} {p : Program} {l : Launch} {e : Env} {s : State} {m : MethodId} {args : Array Value} {below : List Frame} {meth : Method} {c : Code} (S : SB X 1 p s m args meth c cX10_wanted 6 (some .int) RX10) {M : Mm} {N : Mm} {r : Int32} {v1 : Int32} {v2 : Int32} {v3 : Int32} {x : (Int32 × Int32) ⊕ Int32}  (he : f_X10_wanted_L30 M v1 v2 v3 = some x) (hc : ∀ b, x = .inl b → Z X 1 p l e rm_X10_wanted s m args below meth c 0 0 (MQ below (QI X 1 r N s.heap.size) args s 0 0 (AA X 1 s.heap.size)) 6 M 30 [(0, .ref (X.2.2 200)), (1, .int v1), (2, .int b.1), (3, .int b.2)] []) (hx : ∀ b, x = .inr b → Z X 1 p l e rm_X10_wanted s m args below meth c 0 0 (MQ below (QI X 1 r N s.heap.size) args s 0 0 (AA X 1 s.heap.size)) 6 M 76 [(0, .ref (X.2.2 200)), (1, .int v1), (2, .int b)] []) : Z X 1 p l e rm_X10_wanted s m args below meth c 0 0 (MQ below (QI X 1 r N s.heap.size) args s 0 0 (AA X 1 s.heap.size)) 6 M 30 [(0, .ref (X.2.2 200)), (1, .int v1), (2, .int v2), (3, .int v3)] [] := by
  unfold f_X10_wanted_L30 at he
  refine z_iload_n S dX10_wanted_30 rfl 3 rfl ?_
  refine z_iload_n S dX10_wanted_31 rfl 1 rfl ?_
  refine z_icmp_ge (tgt := 76) S he dX10_wanted_32 (by decide) (fun he => ?_) (fun he => ?_)
  · refine z_lv (ks := [0, 1, 2]) rfl ?_
    exact hx _ (Option.some.inj he).symm
  · refine z_iload_n S dX10_wanted_35 rfl 2 rfl ?_
    refine z_if_eq (tgt := 76) S he dX10_wanted_36 (by decide) (fun he => ?_) (fun he => ?_)
    · refine z_lv (ks := [0, 1, 2]) rfl ?_
      exact hx _ (Option.some.inj he).symm
    · refine z_aload_n S dX10_wanted_39 rfl 0 rfl ?_
      refine z_getF (j := 205) S fo_RX10_22 5 rfl rfl ok_200 dX10_wanted_40 ?_
      refine z_iload_n S dX10_wanted_43 rfl 3 rfl ?_
      refine z_iald S ok_205 rfl he dX10_wanted_44 (fun he => ?_)
      refine z_iload_n S dX10_wanted_45 rfl 3 rfl ?_
      refine z_iconst (v := 2) S dX10_wanted_46 (by decide) ?_
      refine z_irem S (by decide) dX10_wanted_47 ?_
      refine z_if_ne (tgt := 60) S he dX10_wanted_48 (by decide) (fun he => ?_) (fun he => ?_)
      · refine z_iconst (v := 2) S dX10_wanted_60 (by decide) ?_
        refine z_lv (ks := [0, 1, 3]) rfl ?_
        exact p_X10_wanted_J30_61 S  he hc hx
      · refine z_aload_n S dX10_wanted_51 rfl 0 rfl ?_
        refine z_getF (j := 201) S fo_RX10_7 1 rfl rfl ok_200 dX10_wanted_52 ?_
        refine z_iconst (v := 4) S dX10_wanted_55 (by decide) ?_
        refine z_iald S ok_201 rfl he dX10_wanted_56 (fun he => ?_)
        refine z_goto (tgt := 61) S dX10_wanted_57 (by decide) ?_
        refine z_lv (ks := [0, 1, 3]) rfl ?_
        exact p_X10_wanted_J30_61 S  he hc hx
set_option maxRecDepth 100000 in
set_option maxHeartbeats 4000000 in
theorem p_X10_wanted_J105_178 {X : Cx} {p : Program} {l : Launch} {e : Env} {s : State} {m : MethodId} {args : Array Value} {below : List Frame} {meth : Method} {c : Code} (S : SB X 1 p s m args meth c cX10_wanted 6 (some .int) RX10) {M : Mm} {N : Mm} {r : Int32} {v1 : Int32} {v3 : Int32} {v4 : Int32} {v5 : Int32} {t0 : Int32} {t1 : Int32} {x : (Mm × Int32) ⊕ Mm}  (he : f_X10_wanted_J105_178 M v1 v3 v4 v5 t0 t1 = some x) (hc : ∀ b, x = .inl b → Z X 1 p l e rm_X10_wanted s m args below meth c 0 0 (MQ below (QI X 1 r N s.heap.size) args s 0 0 (AA X 1 s.heap.size)) 6 b.1 105 [(0, .ref (X.2.2 200)), (1, .int v1), (3, .int v3), (4, .int v4), (5, .int b.2)] []) (hx : ∀ b, x = .inr b → Z X 1 p l e rm_X10_wanted s m args below meth c 0 0 (MQ below (QI X 1 r N s.heap.size) args s 0 0 (AA X 1 s.heap.size)) 6 b 185 [(0, .ref (X.2.2 200)), (1, .int v1), (3, .int v3), (4, .int v4)] []) : Z X 1 p l e rm_X10_wanted s m args below meth c 0 0 (MQ below (QI X 1 r N s.heap.size) args s 0 0 (AA X 1 s.heap.size)) 6 M 178 [(0, .ref (X.2.2 200)), (1, .int v1), (3, .int v3), (4, .int v4), (5, .int v5)] [.int t0, .int t1, .ref (X.2.2 216)] := by
  unfold f_X10_wanted_J105_178 at he
  refine z_zastb S ok_216 rfl he dX10_wanted_178 (fun M5 he => ?_)
  refine z_iinc (v := (v5 + 2)) (lv' := [(0, .ref (X.2.2 200)), (1, .int v1), (3, .int v3), (4, .int v4), (5, .int (v5 + 2))]) S [1, 2, 3, 4, 0] 4 dX10_wanted_179 rfl (by rfl) (by decide) rfl ?_
  refine z_goto (tgt := 105) S dX10_wanted_182 (by decide) ?_
  refine z_lv (ks := [0, 1, 2, 3, 4]) rfl ?_
  exact hc _ (Option.some.inj he).symm
set_option maxRecDepth 100000 in
set_option maxHeartbeats 4000000 in
theorem p_X10_wanted_J105_170 {X : Cx} {p : Program} {l : Launch} {e : Env} {s : State} {m : MethodId} {args : Array Value} {below : List Frame} {meth : Method} {c : Code} (S : SB X 1 p s m args meth c cX10_wanted 6 (some .int) RX10) {M : Mm} {N : Mm} {r : Int32} {v1 : Int32} {v3 : Int32} {v4 : Int32} {v5 : Int32} {t0 : Int32} {t1 : Int32} {t2 : Int32} {x : (Mm × Int32) ⊕ Mm}  (he : f_X10_wanted_J105_170 M v1 v3 v4 v5 t0 t1 t2 = some x) (hc : ∀ b, x = .inl b → Z X 1 p l e rm_X10_wanted s m args below meth c 0 0 (MQ below (QI X 1 r N s.heap.size) args s 0 0 (AA X 1 s.heap.size)) 6 b.1 105 [(0, .ref (X.2.2 200)), (1, .int v1), (3, .int v3), (4, .int v4), (5, .int b.2)] []) (hx : ∀ b, x = .inr b → Z X 1 p l e rm_X10_wanted s m args below meth c 0 0 (MQ below (QI X 1 r N s.heap.size) args s 0 0 (AA X 1 s.heap.size)) 6 b 185 [(0, .ref (X.2.2 200)), (1, .int v1), (3, .int v3), (4, .int v4)] []) : Z X 1 p l e rm_X10_wanted s m args below meth c 0 0 (MQ below (QI X 1 r N s.heap.size) args s 0 0 (AA X 1 s.heap.size)) 6 M 170 [(0, .ref (X.2.2 200)), (1, .int v1), (3, .int v3), (4, .int v4), (5, .int v5)] [.int t0, .int t1, .int t2, .ref (X.2.2 216)] := by
  unfold f_X10_wanted_J105_170 at he
  refine z_icmp_ne (tgt := 177) S he dX10_wanted_170 (by decide) (fun he => ?_) (fun he => ?_)
  · refine z_iconst (v := 0) S dX10_wanted_177 (by decide) ?_
    exact p_X10_wanted_J105_178 S  he hc hx
  · refine z_iconst (v := 1) S dX10_wanted_173 (by decide) ?_
    refine z_goto (tgt := 178) S dX10_wanted_174 (by decide) ?_
    exact p_X10_wanted_J105_178 S  he hc hx
set_option maxRecDepth 100000 in
set_option maxHeartbeats 4000000 in
theorem p_X10_wanted_J105_152 {X : Cx} {p : Program} {l : Launch} {e : Env} {s : State} {m : MethodId} {args : Array Value} {below : List Frame} {meth : Method} {c : Code} (S : SB X 1 p s m args meth c cX10_wanted 6 (some .int) RX10) {M : Mm} {N : Mm} {r : Int32} {v1 : Int32} {v3 : Int32} {v4 : Int32} {v5 : Int32} {t0 : Int32} {t1 : Int32} {x : (Mm × Int32) ⊕ Mm}  (he : f_X10_wanted_J105_152 M v1 v3 v4 v5 t0 t1 = some x) (hc : ∀ b, x = .inl b → Z X 1 p l e rm_X10_wanted s m args below meth c 0 0 (MQ below (QI X 1 r N s.heap.size) args s 0 0 (AA X 1 s.heap.size)) 6 b.1 105 [(0, .ref (X.2.2 200)), (1, .int v1), (3, .int v3), (4, .int v4), (5, .int b.2)] []) (hx : ∀ b, x = .inr b → Z X 1 p l e rm_X10_wanted s m args below meth c 0 0 (MQ below (QI X 1 r N s.heap.size) args s 0 0 (AA X 1 s.heap.size)) 6 b 185 [(0, .ref (X.2.2 200)), (1, .int v1), (3, .int v3), (4, .int v4)] []) : Z X 1 p l e rm_X10_wanted s m args below meth c 0 0 (MQ below (QI X 1 r N s.heap.size) args s 0 0 (AA X 1 s.heap.size)) 6 M 152 [(0, .ref (X.2.2 200)), (1, .int v1), (3, .int v3), (4, .int v4), (5, .int v5)] [.int t0, .int t1, .ref (X.2.2 216)] := by
  unfold f_X10_wanted_J105_152 at he
  refine z_aload_n S dX10_wanted_152 rfl 0 rfl ?_
  refine z_getF (j := 205) S fo_RX10_22 5 rfl rfl ok_200 dX10_wanted_153 ?_
  refine z_iload S dX10_wanted_156 4 rfl ?_
  refine z_iconst (v := 1) S dX10_wanted_158 (by decide) ?_
  refine z_iadd S dX10_wanted_159 ?_
  refine z_iald S ok_205 rfl he dX10_wanted_160 (fun he => ?_)
  refine z_iconst (v := 1) S dX10_wanted_161 (by decide) ?_
  refine z_icmp_ne (tgt := 169) S he dX10_wanted_162 (by decide) (fun he => ?_) (fun he => ?_)
  · refine z_iconst (v := 0) S dX10_wanted_169 (by decide) ?_
    exact p_X10_wanted_J105_170 S  he hc hx
  · refine z_iconst (v := 1) S dX10_wanted_165 (by decide) ?_
    refine z_goto (tgt := 170) S dX10_wanted_166 (by decide) ?_
    exact p_X10_wanted_J105_170 S  he hc hx
set_option maxRecDepth 100000 in
set_option maxHeartbeats 4000000 in
theorem p_X10_wanted_L105 {X : Cx} {p : Program} {l : Launch} {e : Env} {s : State} {m : MethodId} {args : Array Value} {below : List Frame} {meth : Method} {c : Code} (S : SB X 1 p s m args meth c cX10_wanted 6 (some .int) RX10) {M : Mm} {N : Mm} {r : Int32} {v1 : Int32} {v3 : Int32} {v4 : Int32} {v5 : Int32} {x : (Mm × Int32) ⊕ Mm}  (he : f_X10_wanted_L105 M v1 v3 v4 v5 = some x) (hc : ∀ b, x = .inl b → Z X 1 p l e rm_X10_wanted s m args below meth c 0 0 (MQ below (QI X 1 r N s.heap.size) args s 0 0 (AA X 1 s.heap.size)) 6 b.1 105 [(0, .ref (X.2.2 200)), (1, .int v1), (3, .int v3), (4, .int v4), (5, .int b.2)] []) (hx : ∀ b, x = .inr b → Z X 1 p l e rm_X10_wanted s m args below meth c 0 0 (MQ below (QI X 1 r N s.heap.size) args s 0 0 (AA X 1 s.heap.size)) 6 b 185 [(0, .ref (X.2.2 200)), (1, .int v1), (3, .int v3), (4, .int v4)] []) : Z X 1 p l e rm_X10_wanted s m args below meth c 0 0 (MQ below (QI X 1 r N s.heap.size) args s 0 0 (AA X 1 s.heap.size)) 6 M 105 [(0, .ref (X.2.2 200)), (1, .int v1), (3, .int v3), (4, .int v4), (5, .int v5)] [] := by
  unfold f_X10_wanted_L105 at he
  refine z_iload S dX10_wanted_105 4 rfl ?_
  refine z_iload_n S dX10_wanted_107 rfl 1 rfl ?_
  refine z_icmp_ge (tgt := 185) S he dX10_wanted_108 (by decide) (fun he => ?_) (fun he => ?_)
  · refine z_lv (ks := [0, 1, 2, 3]) rfl ?_
    exact hx _ (Option.some.inj he).symm
  · refine z_aload_n S dX10_wanted_111 rfl 0 rfl ?_
    refine z_getF (j := 216) S fo_RX10_59 16 rfl rfl ok_200 dX10_wanted_112 ?_
    refine z_iload S dX10_wanted_115 3 rfl ?_
    refine z_zald S ok_216 rfl he dX10_wanted_117 (fun he => ?_)
    refine z_if_eq (tgt := 185) S he dX10_wanted_118 (by decide) (fun he => ?_) (fun he => ?_)
    · refine z_lv (ks := [0, 1, 2, 3]) rfl ?_
      exact hx _ (Option.some.inj he).symm
    · refine z_aload_n S dX10_wanted_121 rfl 0 rfl ?_
      refine z_getF (j := 216) S fo_RX10_59 16 rfl rfl ok_200 dX10_wanted_122 ?_
      refine z_iload S dX10_wanted_125 3 rfl ?_
      refine z_iload S dX10_wanted_127 3 rfl ?_
      refine z_aload_n S dX10_wanted_129 rfl 0 rfl ?_
      refine z_aload_n S dX10_wanted_130 rfl 0 rfl ?_
      refine z_getF (j := 205) S fo_RX10_22 5 rfl rfl ok_200 dX10_wanted_131 ?_
      refine z_iload S dX10_wanted_134 4 rfl ?_
      refine z_iald S ok_205 rfl he dX10_wanted_136 (fun he => ?_)
      refine z_iconst (v := 4) S dX10_wanted_137 (by decide) ?_
      obtain ⟨r4, h9, he⟩ := bnd he
      refine z_cVI (As := [.int (gA M 205 v5), .int 4]) S cv_RX10_246 (K_X10_ofOne  h9) ok_200 (by decide) (q := (RX10, TX10, 28)) rfl rfl ⟨rfl, rfl⟩ ⟨Nat.le_of_ble_eq_true rfl, Nat.le_of_ble_eq_true rfl⟩ ⟨Nat.le_refl _, Nat.le_refl _⟩ rfl rfl (Nat.le_of_ble_eq_true rfl) dX10_wanted_138 ?_
      refine z_iconst (v := (-1)) S dX10_wanted_141 (by decide) ?_
      refine z_ixor S dX10_wanted_142 ?_
      refine z_iand S dX10_wanted_143 ?_
      refine z_if_ne (tgt := 151) S he dX10_wanted_144 (by decide) (fun he => ?_) (fun he => ?_)
      · refine z_iconst (v := 0) S dX10_wanted_151 (by decide) ?_
        exact p_X10_wanted_J105_152 S  he hc hx
      · refine z_iconst (v := 1) S dX10_wanted_147 (by decide) ?_
        refine z_goto (tgt := 152) S dX10_wanted_148 (by decide) ?_
        exact p_X10_wanted_J105_152 S  he hc hx
set_option maxRecDepth 100000 in
set_option maxHeartbeats 4000000 in
theorem p_X10_wanted_L87 {X : Cx} {p : Program} {l : Launch} {e : Env} {s : State} {m : MethodId} {args : Array Value} {below : List Frame} {meth : Method} {c : Code} (S : SB X 1 p s m args meth c cX10_wanted 6 (some .int) RX10) {M : Mm} {N : Mm} {r : Int32} {v1 : Int32} {v3 : Int32} {v4 : Int32} {x : (Mm × Int32 × Int32) ⊕ (Mm × Int32)}  (he : f_X10_wanted_L87 M v1 v3 v4 = some x) (hc : ∀ b, x = .inl b → Z X 1 p l e rm_X10_wanted s m args below meth c 0 0 (MQ below (QI X 1 r N s.heap.size) args s 0 0 (AA X 1 s.heap.size)) 6 b.1 87 [(0, .ref (X.2.2 200)), (1, .int v1), (3, .int b.2.1), (4, .int b.2.2)] []) (hx : ∀ b, x = .inr b → Z X 1 p l e rm_X10_wanted s m args below meth c 0 0 (MQ below (QI X 1 r N s.heap.size) args s 0 0 (AA X 1 s.heap.size)) 6 b.1 209 [(3, .int b.2)] []) : Z X 1 p l e rm_X10_wanted s m args below meth c 0 0 (MQ below (QI X 1 r N s.heap.size) args s 0 0 (AA X 1 s.heap.size)) 6 M 87 [(0, .ref (X.2.2 200)), (1, .int v1), (3, .int v3), (4, .int v4)] [] := by
  unfold f_X10_wanted_L87 at he
  refine z_iload S dX10_wanted_87 3 rfl ?_
  refine z_bipush (v := 64) S dX10_wanted_89 (by decide) ?_
  refine z_icmp_ge (tgt := 209) S he dX10_wanted_91 (by decide) (fun he => ?_) (fun he => ?_)
  · refine z_lv (ks := [2]) rfl ?_
    exact hx _ (Option.some.inj he).symm
  · refine z_aload_n S dX10_wanted_94 rfl 0 rfl ?_
    refine z_getF (j := 216) S fo_RX10_59 16 rfl rfl ok_200 dX10_wanted_95 ?_
    refine z_iload S dX10_wanted_98 3 rfl ?_
    refine z_iconst (v := 1) S dX10_wanted_100 (by decide) ?_
    refine z_zastb S ok_216 rfl he dX10_wanted_101 (fun M3 he => ?_)
    refine z_iconst (v := 0) S dX10_wanted_102 (by decide) ?_
    refine z_istore (lv' := [(0, .ref (X.2.2 200)), (1, .int v1), (3, .int v3), (4, .int v4), (5, .int 0)]) S [1, 2, 3, 4, 0] dX10_wanted_103 (by decide) rfl ?_
    obtain ⟨e_6, hl, he⟩ := bnd he
    have hX : Z X 1 p l e rm_X10_wanted s m args below meth c 0 0 (MQ below (QI X 1 r N s.heap.size) args s 0 0 (AA X 1 s.heap.size)) 6 e_6 185 [(0, .ref (X.2.2 200)), (1, .int v1), (3, .int v3), (4, .int v4)] [] := by
      refine z_iload_n S dX10_wanted_185 rfl 2 rfl ?_
      refine z_aload_n S dX10_wanted_186 rfl 0 rfl ?_
      refine z_getF (j := 216) S fo_RX10_59 16 rfl rfl ok_200 dX10_wanted_187 ?_
      refine z_iload S dX10_wanted_190 3 rfl ?_
      refine z_zald S ok_216 rfl he dX10_wanted_192 (fun he => ?_)
      refine z_if_eq (tgt := 200) S he dX10_wanted_193 (by decide) (fun he => ?_) (fun he => ?_)
      · refine z_iconst (v := 0) S dX10_wanted_200 (by decide) ?_
        refine z_iadd S dX10_wanted_201 ?_
        refine z_istore_n (lv' := [(0, .ref (X.2.2 200)), (1, .int v1), (3, .int (v3 + 0)), (4, .int v4)]) S [1, 2, 0, 3] dX10_wanted_202 rfl (by decide) rfl ?_
        refine z_iinc (v := (v4 + 1)) (lv' := [(0, .ref (X.2.2 200)), (1, .int v1), (3, .int (v3 + 0)), (4, .int (v4 + 1))]) S [1, 2, 3, 0] 3 dX10_wanted_203 rfl (by rfl) (by decide) rfl ?_
        refine z_goto (tgt := 87) S dX10_wanted_206 (by decide) ?_
        refine z_lv (ks := [0, 1, 2, 3]) rfl ?_
        exact hc _ (Option.some.inj he).symm
      · refine z_iconst (v := 1) S dX10_wanted_196 (by decide) ?_
        refine z_goto (tgt := 201) S dX10_wanted_197 (by decide) ?_
        refine z_iadd S dX10_wanted_201 ?_
        refine z_istore_n (lv' := [(0, .ref (X.2.2 200)), (1, .int v1), (3, .int (v3 + 1)), (4, .int v4)]) S [1, 2, 0, 3] dX10_wanted_202 rfl (by decide) rfl ?_
        refine z_iinc (v := (v4 + 1)) (lv' := [(0, .ref (X.2.2 200)), (1, .int v1), (3, .int (v3 + 1)), (4, .int (v4 + 1))]) S [1, 2, 3, 0] 3 dX10_wanted_203 rfl (by rfl) (by decide) rfl ?_
        refine z_goto (tgt := 87) S dX10_wanted_206 (by decide) ?_
        refine z_lv (ks := [0, 1, 2, 3]) rfl ?_
        exact hc _ (Option.some.inj he).symm
    exact loopZ (Zh := (fun a_6 => Z X 1 p l e rm_X10_wanted s m args below meth c 0 0 (MQ below (QI X 1 r N s.heap.size) args s 0 0 (AA X 1 s.heap.size)) 6 a_6.1 105 [(0, .ref (X.2.2 200)), (1, .int v1), (3, .int v3), (4, .int v4), (5, .int a_6.2)] [])) (fun a_6 x hb hc hr => p_X10_wanted_L105 S  hb hc (fun b hxe => by rw [hr b hxe]; exact hX)) FU _ hl
set_option maxRecDepth 100000 in
set_option maxHeartbeats 4000000 in
theorem p_X10_wanted_J27 {X : Cx} {p : Program} {l : Launch} {e : Env} {s : State} {m : MethodId} {args : Array Value} {below : List Frame} {meth : Method} {c : Code} (S : SB X 1 p s m args meth c cX10_wanted 6 (some .int) RX10) {M : Mm} {N : Mm} {r : Int32} {v1 : Int32} {t0 : Int32}  (he : f_X10_wanted_J27 M v1 t0 = some (r, N)) : Z X 1 p l e rm_X10_wanted s m args below meth c 0 0 (MQ below (QI X 1 r N s.heap.size) args s 0 0 (AA X 1 s.heap.size)) 6 M 27 [(0, .ref (X.2.2 200)), (1, .int v1)] [.int t0] := by
  unfold f_X10_wanted_J27 at he
  refine z_istore_n (lv' := [(0, .ref (X.2.2 200)), (1, .int v1), (2, .int t0)]) S [1, 2, 0] dX10_wanted_27 rfl (by decide) rfl ?_
  refine z_iconst (v := 0) S dX10_wanted_28 (by decide) ?_
  refine z_istore_n (lv' := [(0, .ref (X.2.2 200)), (1, .int v1), (2, .int t0), (3, .int 0)]) S [1, 2, 3, 0] dX10_wanted_29 rfl (by decide) rfl ?_
  obtain ⟨e_2, hl, he⟩ := bnd he
  have hX : Z X 1 p l e rm_X10_wanted s m args below meth c 0 0 (MQ below (QI X 1 r N s.heap.size) args s 0 0 (AA X 1 s.heap.size)) 6 M 76 [(0, .ref (X.2.2 200)), (1, .int v1), (2, .int e_2)] [] := by
    refine z_iload_n S dX10_wanted_76 rfl 2 rfl ?_
    refine z_if_ne (tgt := 82) S he dX10_wanted_77 (by decide) (fun he => ?_) (fun he => ?_)
    · refine z_iconst (v := 0) S dX10_wanted_82 (by decide) ?_
      refine z_istore_n (lv' := [(0, .ref (X.2.2 200)), (1, .int v1), (3, .int 0)]) S [1, 2, 0] dX10_wanted_83 rfl (by decide) rfl ?_
      refine z_iconst (v := 0) S dX10_wanted_84 (by decide) ?_
      refine z_istore (lv' := [(0, .ref (X.2.2 200)), (1, .int v1), (3, .int 0), (4, .int 0)]) S [1, 2, 3, 0] dX10_wanted_85 (by decide) rfl ?_
      obtain ⟨e_7, hl, he⟩ := bnd he
      have hX : Z X 1 p l e rm_X10_wanted s m args below meth c 0 0 (MQ below (QI X 1 r N s.heap.size) args s 0 0 (AA X 1 s.heap.size)) 6 e_7.1 209 [(3, .int e_7.2)] [] := by
        refine z_iload_n S dX10_wanted_209 rfl 0 rfl ?_
        exact z_iret S (Prod.mk.inj (Option.some.inj he)) dX10_wanted_210
      exact loopZ (Zh := (fun a_7 => Z X 1 p l e rm_X10_wanted s m args below meth c 0 0 (MQ below (QI X 1 r N s.heap.size) args s 0 0 (AA X 1 s.heap.size)) 6 a_7.1 87 [(0, .ref (X.2.2 200)), (1, .int v1), (3, .int a_7.2.1), (4, .int a_7.2.2)] [])) (fun a_7 x hb hc hr => p_X10_wanted_L87 S  hb hc (fun b hxe => by rw [hr b hxe]; exact hX)) FU _ hl
    · refine z_iconst (v := (-1)) S dX10_wanted_80 (by decide) ?_
      exact z_iret S (Prod.mk.inj (Option.some.inj he)) dX10_wanted_81
  exact loopZ (Zh := (fun a_2 => Z X 1 p l e rm_X10_wanted s m args below meth c 0 0 (MQ below (QI X 1 r N s.heap.size) args s 0 0 (AA X 1 s.heap.size)) 6 M 30 [(0, .ref (X.2.2 200)), (1, .int v1), (2, .int a_2.1), (3, .int a_2.2)] [])) (fun a_2 x hb hc hr => p_X10_wanted_L30 S  hb hc (fun b hxe => by rw [hr b hxe]; exact hX)) FU _ hl
set_option maxRecDepth 100000 in
set_option maxHeartbeats 4000000 in
theorem p_X10_wanted_J26 {X : Cx} {p : Program} {l : Launch} {e : Env} {s : State} {m : MethodId} {args : Array Value} {below : List Frame} {meth : Method} {c : Code} (S : SB X 1 p s m args meth c cX10_wanted 6 (some .int) RX10) {M : Mm} {N : Mm} {r : Int32} {v1 : Int32}  (he : f_X10_wanted_J26 M v1 = some (r, N)) : Z X 1 p l e rm_X10_wanted s m args below meth c 0 0 (MQ below (QI X 1 r N s.heap.size) args s 0 0 (AA X 1 s.heap.size)) 6 M 26 [(0, .ref (X.2.2 200)), (1, .int v1)] [] := by
  unfold f_X10_wanted_J26 at he
  refine z_iconst (v := 0) S dX10_wanted_26 (by decide) ?_
  exact p_X10_wanted_J27 S  he
set_option maxRecDepth 100000 in
set_option maxHeartbeats 4000000 in
theorem K_X10_wanted {X : Cx} {l : Launch} {M : Mm} {r : Int32} {N : Mm}  (he : f_X10_wanted M  = some (r, N)) : KI X 1 l yX10_wanted (wz yX10_wanted cX10_wanted 6 (some .int)) rm_X10_wanted [.ref (X.2.2 200)] M r N := by
  intro sz
  refine K_of (Qc := (fun sz => QI X 1 r N sz)) (own := RX10) (lv0 := [(0, .ref (X.2.2 200))]) (by decide +kernel) rfl (Nat.le_of_ble_eq_true rfl) rfl (fun p e s m args below meth c S => ?_) sz
  · unfold f_X10_wanted at he
    refine z_aload_n S dX10_wanted_0 rfl 0 rfl ?_
    refine z_getI S fo_RX10_74 rfl ok_200 dX10_wanted_1 ?_
    refine z_istore_n (lv' := [(0, .ref (X.2.2 200)), (1, .int (gI M 200 8))]) S [1, 0] dX10_wanted_4 rfl (by decide) rfl ?_
    refine z_aload_n S dX10_wanted_5 rfl 0 rfl ?_
    refine z_iconst (v := 0) S dX10_wanted_6 (by decide) ?_
    refine z_putIb S fo_RX10_74p rfl ok_200 rfl rfl he dX10_wanted_7 (fun M1 he => ?_)
    refine z_iload_n S dX10_wanted_10 rfl 1 rfl ?_
    refine z_iconst (v := 2) S dX10_wanted_11 (by decide) ?_
    refine z_irem S (by decide) dX10_wanted_12 ?_
    refine z_if_ne (tgt := 26) S he dX10_wanted_13 (by decide) (fun he => ?_) (fun he => ?_)
    · exact p_X10_wanted_J26 S  he
    · refine z_iload_n S dX10_wanted_16 rfl 1 rfl ?_
      refine z_bipush (v := 40) S dX10_wanted_17 (by decide) ?_
      refine z_icmp_gt (tgt := 26) S he dX10_wanted_19 (by decide) (fun he => ?_) (fun he => ?_)
      · exact p_X10_wanted_J26 S  he
      · refine z_iconst (v := 1) S dX10_wanted_22 (by decide) ?_
        refine z_goto (tgt := 27) S dX10_wanted_23 (by decide) ?_
        exact p_X10_wanted_J27 S  he
set_option maxRecDepth 100000 in
set_option maxHeartbeats 4000000 in
theorem p_X10_send_J59_97 {X : Cx} {p : Program} {l : Launch} {e : Env} {s : State} {m : MethodId} {args : Array Value} {below : List Frame} {meth : Method} {c : Code} (S : SB X 1 p s m args meth c cX10_send 7 (some .int) RX10) {M : Mm} {N : Mm} {r : Int32} {v1 : Int32} {v2 : Int32} {v3 : Int32} {v4 : Int32} {v6 : Int32} {t0 : Int32} {x : (Int32 × Int32) ⊕ Int32}  (he : f_X10_send_J59_97 M v1 v2 v3 v4 v6 t0 = some x) (hc : ∀ b, x = .inl b → Z X 1 p l e rm_X10_send s m args below meth c 0 0 (MQ below (QI X 1 r N s.heap.size) args s 0 0 (AA X 1 s.heap.size)) 7 M 59 [(0, .ref (X.2.2 200)), (1, .int v1), (2, .int v2), (3, .int v3), (4, .int v4), (5, .int b.1), (6, .int b.2)] []) (hx : ∀ b, x = .inr b → Z X 1 p l e rm_X10_send s m args below meth c 0 0 (MQ below (QI X 1 r N s.heap.size) args s 0 0 (AA X 1 s.heap.size)) 7 M 107 [(0, .ref (X.2.2 200)), (1, .int v1), (2, .int v2), (3, .int v3), (4, .int v4), (5, .int b)] []) : Z X 1 p l e rm_X10_send s m args below meth c 0 0 (MQ below (QI X 1 r N s.heap.size) args s 0 0 (AA X 1 s.heap.size)) 7 M 97 [(0, .ref (X.2.2 200)), (1, .int v1), (2, .int v2), (3, .int v3), (4, .int v4), (6, .int v6)] [.int t0] := by
  unfold f_X10_send_J59_97 at he
  refine z_iconst (v := 0) S dX10_send_97 (by decide) ?_
  refine z_iadd S dX10_send_98 ?_
  refine z_istore (lv' := [(0, .ref (X.2.2 200)), (1, .int v1), (2, .int v2), (3, .int v3), (4, .int v4), (5, .int (t0 + 0)), (6, .int v6)]) S [1, 2, 3, 4, 5, 0, 6] dX10_send_99 (by decide) rfl ?_
  refine z_iinc (v := (v6 + 1)) (lv' := [(0, .ref (X.2.2 200)), (1, .int v1), (2, .int v2), (3, .int v3), (4, .int v4), (5, .int (t0 + 0)), (6, .int (v6 + 1))]) S [1, 2, 3, 4, 5, 6, 0] 6 dX10_send_101 rfl (by rfl) (by decide) rfl ?_
  refine z_goto (tgt := 59) S dX10_send_104 (by decide) ?_
  refine z_lv (ks := [0, 1, 2, 3, 4, 5, 6]) rfl ?_
  exact hc _ (Option.some.inj he).symm
set_option maxRecDepth 100000 in
set_option maxHeartbeats 4000000 in
theorem p_X10_send_L59 {X : Cx} {p : Program} {l : Launch} {e : Env} {s : State} {m : MethodId} {args : Array Value} {below : List Frame} {meth : Method} {c : Code} (S : SB X 1 p s m args meth c cX10_send 7 (some .int) RX10) {M : Mm} {N : Mm} {r : Int32} {v1 : Int32} {v2 : Int32} {v3 : Int32} {v4 : Int32} {v5 : Int32} {v6 : Int32} {x : (Int32 × Int32) ⊕ Int32}  (he : f_X10_send_L59 M v1 v2 v3 v4 v5 v6 = some x) (hc : ∀ b, x = .inl b → Z X 1 p l e rm_X10_send s m args below meth c 0 0 (MQ below (QI X 1 r N s.heap.size) args s 0 0 (AA X 1 s.heap.size)) 7 M 59 [(0, .ref (X.2.2 200)), (1, .int v1), (2, .int v2), (3, .int v3), (4, .int v4), (5, .int b.1), (6, .int b.2)] []) (hx : ∀ b, x = .inr b → Z X 1 p l e rm_X10_send s m args below meth c 0 0 (MQ below (QI X 1 r N s.heap.size) args s 0 0 (AA X 1 s.heap.size)) 7 M 107 [(0, .ref (X.2.2 200)), (1, .int v1), (2, .int v2), (3, .int v3), (4, .int v4), (5, .int b)] []) : Z X 1 p l e rm_X10_send s m args below meth c 0 0 (MQ below (QI X 1 r N s.heap.size) args s 0 0 (AA X 1 s.heap.size)) 7 M 59 [(0, .ref (X.2.2 200)), (1, .int v1), (2, .int v2), (3, .int v3), (4, .int v4), (5, .int v5), (6, .int v6)] [] := by
  unfold f_X10_send_L59 at he
  refine z_iload S dX10_send_59 6 rfl ?_
  refine z_bipush (v := 64) S dX10_send_61 (by decide) ?_
  refine z_icmp_ge (tgt := 107) S he dX10_send_63 (by decide) (fun he => ?_) (fun he => ?_)
  · refine z_lv (ks := [0, 1, 2, 3, 4, 5]) rfl ?_
    exact hx _ (Option.some.inj he).symm
  · refine z_iload S dX10_send_66 5 rfl ?_
    refine z_aload_n S dX10_send_68 rfl 0 rfl ?_
    refine z_getF (j := 216) S fo_RX10_59 16 rfl rfl ok_200 dX10_send_69 ?_
    refine z_iload S dX10_send_72 6 rfl ?_
    refine z_zald S ok_216 rfl he dX10_send_74 (fun he => ?_)
    refine z_if_eq (tgt := 97) S he dX10_send_75 (by decide) (fun he => ?_) (fun he => ?_)
    · refine z_lv (ks := [0, 1, 2, 3, 4, 6]) rfl ?_
      exact p_X10_send_J59_97 S  he hc hx
    · refine z_iload S dX10_send_78 6 rfl ?_
      refine z_aload_n S dX10_send_80 rfl 0 rfl ?_
      refine z_iload S dX10_send_81 4 rfl ?_
      refine z_iconst (v := 4) S dX10_send_83 (by decide) ?_
      obtain ⟨r4, h9, he⟩ := bnd he
      refine z_cVI (As := [.int v4, .int 4]) S cv_RX10_246 (K_X10_ofOne  h9) ok_200 (by decide) (q := (RX10, TX10, 28)) rfl rfl ⟨rfl, rfl⟩ ⟨Nat.le_of_ble_eq_true rfl, Nat.le_of_ble_eq_true rfl⟩ ⟨Nat.le_refl _, Nat.le_refl _⟩ rfl rfl (Nat.le_of_ble_eq_true rfl) dX10_send_84 ?_
      refine z_iconst (v := (-1)) S dX10_send_87 (by decide) ?_
      refine z_ixor S dX10_send_88 ?_
      refine z_iand S dX10_send_89 ?_
      refine z_if_ne (tgt := 97) S he dX10_send_90 (by decide) (fun he => ?_) (fun he => ?_)
      · refine z_lv (ks := [0, 1, 2, 3, 4, 6]) rfl ?_
        exact p_X10_send_J59_97 S  he hc hx
      · refine z_iconst (v := 1) S dX10_send_93 (by decide) ?_
        refine z_goto (tgt := 98) S dX10_send_94 (by decide) ?_
        refine z_iadd S dX10_send_98 ?_
        refine z_istore (lv' := [(0, .ref (X.2.2 200)), (1, .int v1), (2, .int v2), (3, .int v3), (4, .int v4), (5, .int (v5 + 1)), (6, .int v6)]) S [1, 2, 3, 4, 5, 0, 6] dX10_send_99 (by decide) rfl ?_
        refine z_iinc (v := (v6 + 1)) (lv' := [(0, .ref (X.2.2 200)), (1, .int v1), (2, .int v2), (3, .int v3), (4, .int v4), (5, .int (v5 + 1)), (6, .int (v6 + 1))]) S [1, 2, 3, 4, 5, 6, 0] 6 dX10_send_101 rfl (by rfl) (by decide) rfl ?_
        refine z_goto (tgt := 59) S dX10_send_104 (by decide) ?_
        refine z_lv (ks := [0, 1, 2, 3, 4, 5, 6]) rfl ?_
        exact hc _ (Option.some.inj he).symm
set_option maxRecDepth 100000 in
set_option maxHeartbeats 4000000 in
theorem p_X10_send_L37 {X : Cx} {p : Program} {l : Launch} {e : Env} {s : State} {m : MethodId} {args : Array Value} {below : List Frame} {meth : Method} {c : Code} (S : SB X 1 p s m args meth c cX10_send 7 (some .int) RX10) {M : Mm} {N : Mm} {r : Int32} {v1 : Int32} {v2 : Int32} {v3 : Int32} {v4 : Int32} {x : (Int32 × Int32 × Int32) ⊕ Int32}  (he : f_X10_send_L37 M v1 v2 v3 v4 = some x) (hc : ∀ b, x = .inl b → Z X 1 p l e rm_X10_send s m args below meth c 0 0 (MQ below (QI X 1 r N s.heap.size) args s 0 0 (AA X 1 s.heap.size)) 7 M 37 [(0, .ref (X.2.2 200)), (1, .int v1), (2, .int b.1), (3, .int b.2.1), (4, .int b.2.2)] []) (hx : ∀ b, x = .inr b → Z X 1 p l e rm_X10_send s m args below meth c 0 0 (MQ below (QI X 1 r N s.heap.size) args s 0 0 (AA X 1 s.heap.size)) 7 M 142 [(2, .int b)] []) : Z X 1 p l e rm_X10_send s m args below meth c 0 0 (MQ below (QI X 1 r N s.heap.size) args s 0 0 (AA X 1 s.heap.size)) 7 M 37 [(0, .ref (X.2.2 200)), (1, .int v1), (2, .int v2), (3, .int v3), (4, .int v4)] [] := by
  unfold f_X10_send_L37 at he
  refine z_iload S dX10_send_37 4 rfl ?_
  refine z_aload_n S dX10_send_39 rfl 0 rfl ?_
  refine z_getF (j := 201) S fo_RX10_7 1 rfl rfl ok_200 dX10_send_40 ?_
  refine z_iconst (v := 4) S dX10_send_43 (by decide) ?_
  refine z_iald S ok_201 rfl he dX10_send_44 (fun he => ?_)
  refine z_icmp_ge (tgt := 142) S he dX10_send_45 (by decide) (fun he => ?_) (fun he => ?_)
  · refine z_lv (ks := [2]) rfl ?_
    exact hx _ (Option.some.inj he).symm
  · refine z_iload_n S dX10_send_48 rfl 1 rfl ?_
    refine z_iconst (v := 1) S dX10_send_49 (by decide) ?_
    refine z_icmp_le (tgt := 142) S he dX10_send_50 (by decide) (fun he => ?_) (fun he => ?_)
    · refine z_lv (ks := [2]) rfl ?_
      exact hx _ (Option.some.inj he).symm
    · refine z_iconst (v := 0) S dX10_send_53 (by decide) ?_
      refine z_istore (lv' := [(0, .ref (X.2.2 200)), (1, .int v1), (2, .int v2), (3, .int v3), (4, .int v4), (5, .int 0)]) S [1, 2, 3, 4, 5, 0] dX10_send_54 (by decide) rfl ?_
      refine z_iconst (v := 0) S dX10_send_56 (by decide) ?_
      refine z_istore (lv' := [(0, .ref (X.2.2 200)), (1, .int v1), (2, .int v2), (3, .int v3), (4, .int v4), (5, .int 0), (6, .int 0)]) S [1, 2, 3, 4, 5, 6, 0] dX10_send_57 (by decide) rfl ?_
      obtain ⟨e_5, hl, he⟩ := bnd he
      have hX : Z X 1 p l e rm_X10_send s m args below meth c 0 0 (MQ below (QI X 1 r N s.heap.size) args s 0 0 (AA X 1 s.heap.size)) 7 M 107 [(0, .ref (X.2.2 200)), (1, .int v1), (2, .int v2), (3, .int v3), (4, .int v4), (5, .int e_5)] [] := by
        refine z_iload S dX10_send_107 5 rfl ?_
        refine z_iload_n S dX10_send_109 rfl 1 rfl ?_
        refine z_iload S dX10_send_110 5 rfl ?_
        refine z_isub S dX10_send_112 ?_
        refine z_cSI (As := [.int e_5, .int (v1 - e_5)]) S cs_RX10_249 (K_X10_greater  rfl) ⟨rfl, rfl⟩ ⟨Nat.le_of_ble_eq_true rfl, Nat.le_of_ble_eq_true rfl⟩ ⟨Nat.le_refl _, Nat.le_refl _⟩ rfl rfl (Nat.le_of_ble_eq_true rfl) dX10_send_113 ?_
        refine z_iload_n S dX10_send_116 rfl 3 rfl ?_
        refine z_icmp_lt (tgt := 123) S he dX10_send_117 (by decide) (fun he => ?_) (fun he => ?_)
        · refine z_iload S dX10_send_123 5 rfl ?_
          refine z_iload_n S dX10_send_125 rfl 1 rfl ?_
          refine z_iload S dX10_send_126 5 rfl ?_
          refine z_isub S dX10_send_128 ?_
          refine z_cSI (As := [.int e_5, .int (v1 - e_5)]) S cs_RX10_249 (K_X10_greater  rfl) ⟨rfl, rfl⟩ ⟨Nat.le_of_ble_eq_true rfl, Nat.le_of_ble_eq_true rfl⟩ ⟨Nat.le_refl _, Nat.le_refl _⟩ rfl rfl (Nat.le_of_ble_eq_true rfl) dX10_send_129 ?_
          obtain ⟨x6, ex6, he⟩ := bnd he
          rw [Option.some.inj ex6]
          refine z_istore_n (lv' := [(0, .ref (X.2.2 200)), (1, .int v1), (3, .int x6), (4, .int v4)]) S [1, 2, 0, 4] dX10_send_132 rfl (by decide) rfl ?_
          refine z_iload S dX10_send_133 3 rfl ?_
          refine z_istore_n (lv' := [(0, .ref (X.2.2 200)), (1, .int v1), (2, .int v4), (3, .int x6), (4, .int v4)]) S [1, 2, 0, 3, 4] dX10_send_135 rfl (by decide) rfl ?_
          refine z_iinc (v := (v4 + 1)) (lv' := [(0, .ref (X.2.2 200)), (1, .int v1), (2, .int v4), (3, .int x6), (4, .int (v4 + 1))]) S [1, 2, 3, 4, 0] 4 dX10_send_136 rfl (by rfl) (by decide) rfl ?_
          refine z_goto (tgt := 37) S dX10_send_139 (by decide) ?_
          refine z_lv (ks := [0, 1, 2, 3, 4]) rfl ?_
          exact hc _ (Option.some.inj he).symm
        · refine z_goto (tgt := 136) S dX10_send_120 (by decide) ?_
          refine z_iinc (v := (v4 + 1)) (lv' := [(0, .ref (X.2.2 200)), (1, .int v1), (2, .int v2), (3, .int v3), (4, .int (v4 + 1)), (5, .int e_5)]) S [1, 2, 3, 4, 0, 5] 4 dX10_send_136 rfl (by rfl) (by decide) rfl ?_
          refine z_goto (tgt := 37) S dX10_send_139 (by decide) ?_
          refine z_lv (ks := [0, 1, 2, 3, 4]) rfl ?_
          exact hc _ (Option.some.inj he).symm
      exact loopZ (Zh := (fun a_5 => Z X 1 p l e rm_X10_send s m args below meth c 0 0 (MQ below (QI X 1 r N s.heap.size) args s 0 0 (AA X 1 s.heap.size)) 7 M 59 [(0, .ref (X.2.2 200)), (1, .int v1), (2, .int v2), (3, .int v3), (4, .int v4), (5, .int a_5.1), (6, .int a_5.2)] [])) (fun a_5 x hb hc hr => p_X10_send_L59 S  hb hc (fun b hxe => by rw [hr b hxe]; exact hX)) FU _ hl
set_option maxRecDepth 100000 in
set_option maxHeartbeats 4000000 in
theorem p_X10_send_J16 {X : Cx} {p : Program} {l : Launch} {e : Env} {s : State} {m : MethodId} {args : Array Value} {below : List Frame} {meth : Method} {c : Code} (S : SB X 1 p s m args meth c cX10_send 7 (some .int) RX10) {M : Mm} {N : Mm} {r : Int32} {v1 : Int32} {t0 : Int32}  (he : f_X10_send_J16 M v1 t0 = some (r, N)) : Z X 1 p l e rm_X10_send s m args below meth c 0 0 (MQ below (QI X 1 r N s.heap.size) args s 0 0 (AA X 1 s.heap.size)) 7 M 16 [(0, .ref (X.2.2 200)), (1, .int v1)] [.int t0, .ref (X.2.2 200)] := by
  unfold f_X10_send_J16 at he
  refine z_putIb S fo_RX10_63p rfl ok_200 rfl rfl he dX10_send_16 (fun M3 he => ?_)
  refine z_aload_n S dX10_send_19 rfl 0 rfl ?_
  refine z_getI S fo_RX10_63 rfl ok_200 dX10_send_20 ?_
  refine z_if_le (tgt := 28) S he dX10_send_23 (by decide) (fun he => ?_) (fun he => ?_)
  · refine z_iconst (v := (-1)) S dX10_send_28 (by decide) ?_
    refine z_istore_n (lv' := [(0, .ref (X.2.2 200)), (1, .int v1), (2, .int (-1))]) S [1, 2, 0] dX10_send_29 rfl (by decide) rfl ?_
    refine z_ldcw (v := 2000000000) S kc_RX10_344 dX10_send_30 ?_
    refine z_istore_n (lv' := [(0, .ref (X.2.2 200)), (1, .int v1), (2, .int (-1)), (3, .int 2000000000)]) S [1, 2, 3, 0] dX10_send_33 rfl (by decide) rfl ?_
    refine z_iconst (v := 0) S dX10_send_34 (by decide) ?_
    refine z_istore (lv' := [(0, .ref (X.2.2 200)), (1, .int v1), (2, .int (-1)), (3, .int 2000000000), (4, .int 0)]) S [1, 2, 3, 4, 0] dX10_send_35 (by decide) rfl ?_
    obtain ⟨e_7, hl, he⟩ := bnd he
    have hX : Z X 1 p l e rm_X10_send s m args below meth c 0 0 (MQ below (QI X 1 r N s.heap.size) args s 0 0 (AA X 1 s.heap.size)) 7 M3 142 [(2, .int e_7)] [] := by
      refine z_iload_n S dX10_send_142 rfl 0 rfl ?_
      exact z_iret S (Prod.mk.inj (Option.some.inj he)) dX10_send_143
    exact loopZ (Zh := (fun a_7 => Z X 1 p l e rm_X10_send s m args below meth c 0 0 (MQ below (QI X 1 r N s.heap.size) args s 0 0 (AA X 1 s.heap.size)) 7 M3 37 [(0, .ref (X.2.2 200)), (1, .int v1), (2, .int a_7.1), (3, .int a_7.2.1), (4, .int a_7.2.2)] [])) (fun a_7 x hb hc hr => p_X10_send_L37 S  hb hc (fun b hxe => by rw [hr b hxe]; exact hX)) FU _ hl
  · refine z_iconst (v := 0) S dX10_send_26 (by decide) ?_
    exact z_iret S (Prod.mk.inj (Option.some.inj he)) dX10_send_27
set_option maxRecDepth 100000 in
set_option maxHeartbeats 4000000 in
theorem K_X10_send {X : Cx} {l : Launch} {M : Mm} {r : Int32} {N : Mm}  (he : f_X10_send M  = some (r, N)) : KI X 1 l yX10_send (wz yX10_send cX10_send 7 (some .int)) rm_X10_send [.ref (X.2.2 200)] M r N := by
  intro sz
  refine K_of (Qc := (fun sz => QI X 1 r N sz)) (own := RX10) (lv0 := [(0, .ref (X.2.2 200))]) (by decide +kernel) rfl (Nat.le_of_ble_eq_true rfl) rfl (fun p e s m args below meth c S => ?_) sz
  · unfold f_X10_send at he
    refine z_aload_n S dX10_send_0 rfl 0 rfl ?_
    obtain ⟨⟨r1, M2⟩, h9, he⟩ := bnd he
    dsimp only at he
    refine z_cVI (As := []) S cv_RX10_341 (K_X10_wanted  h9) ok_200 (by decide) (q := (RX10, TX10, 28)) rfl rfl ⟨rfl, rfl⟩ ⟨Nat.le_of_ble_eq_true rfl, Nat.le_of_ble_eq_true rfl⟩ ⟨Nat.le_refl _, Nat.le_refl _⟩ rfl rfl (Nat.le_of_ble_eq_true rfl) dX10_send_1 ?_
    refine z_istore_n (lv' := [(0, .ref (X.2.2 200)), (1, .int r1)]) S [1, 0] dX10_send_4 rfl (by decide) rfl ?_
    refine z_aload_n S dX10_send_5 rfl 0 rfl ?_
    refine z_iload_n S dX10_send_6 rfl 1 rfl ?_
    refine z_iconst (v := (-1)) S dX10_send_7 (by decide) ?_
    refine z_icmp_ne (tgt := 15) S he dX10_send_8 (by decide) (fun he => ?_) (fun he => ?_)
    · refine z_iconst (v := 0) S dX10_send_15 (by decide) ?_
      exact p_X10_send_J16 S  he
    · refine z_iconst (v := 1) S dX10_send_11 (by decide) ?_
      refine z_goto (tgt := 16) S dX10_send_12 (by decide) ?_
      exact p_X10_send_J16 S  he
set_option maxRecDepth 100000 in
set_option maxHeartbeats 4000000 in
theorem p_X10_show_J67 {X : Cx} {p : Program} {l : Launch} {e : Env} {s : State} {m : MethodId} {args : Array Value} {below : List Frame} {meth : Method} {c : Code} (S : SB X 1 p s m args meth c cX10_show 4 (some .boolean) RX10) {M : Mm} {N : Mm} {r : Bool} {v2 : Int32} {v3 : Int32} {t0 : Int32} {t1 : Int32}  (he : f_X10_show_J67 M v2 v3 t0 t1 = some (r, N)) : Z X 1 p l e rm_X10_show s m args below meth c 0 0 (MQ below (QI X 1 (bI r) N s.heap.size) args s 0 0 (AA X 1 s.heap.size)) 4 M 67 [(2, .int v2), (3, .int v3)] [.int t0, .int t1, .ref (X.2.2 201)] := by
  unfold f_X10_show_J67 at he
  refine z_iastb S ok_201 rfl he dX10_show_67 (fun M5 he => ?_)
  refine z_iload_n S dX10_show_68 rfl 1 rfl ?_
  refine z_iload_n S dX10_show_69 rfl 0 rfl ?_
  refine z_icmp_eq (tgt := 77) S he dX10_show_70 (by decide) (fun he => ?_) (fun he => ?_)
  · refine z_iconst (v := 0) S dX10_show_77 (by decide) ?_
    exact z_zret0 S (Prod.mk.inj (Option.some.inj he)) dX10_show_78
  · refine z_iconst (v := 1) S dX10_show_73 (by decide) ?_
    refine z_goto (tgt := 78) S dX10_show_74 (by decide) ?_
    exact z_zret1 S (Prod.mk.inj (Option.some.inj he)) dX10_show_78
set_option maxRecDepth 100000 in
set_option maxHeartbeats 4000000 in
theorem p_X10_show_J45 {X : Cx} {p : Program} {l : Launch} {e : Env} {s : State} {m : MethodId} {args : Array Value} {below : List Frame} {meth : Method} {c : Code} (S : SB X 1 p s m args meth c cX10_show 4 (some .boolean) RX10) {M : Mm} {N : Mm} {r : Bool} {v1 : Int32} {v2 : Int32} {t0 : Int32}  (he : f_X10_show_J45 M v1 v2 t0 = some (r, N)) : Z X 1 p l e rm_X10_show s m args below meth c 0 0 (MQ below (QI X 1 (bI r) N s.heap.size) args s 0 0 (AA X 1 s.heap.size)) 4 M 45 [(0, .ref (X.2.2 200)), (1, .int v1), (2, .int v2)] [.int t0] := by
  unfold f_X10_show_J45 at he
  refine z_istore_n (lv' := [(0, .ref (X.2.2 200)), (1, .int v1), (2, .int v2), (3, .int t0)]) S [1, 2, 3, 0] dX10_show_45 rfl (by decide) rfl ?_
  refine z_aload_n S dX10_show_46 rfl 0 rfl ?_
  refine z_getF (j := 201) S fo_RX10_7 1 rfl rfl ok_200 dX10_show_47 ?_
  refine z_bipush (v := 12) S dX10_show_50 (by decide) ?_
  refine z_iconst (v := 5) S dX10_show_52 (by decide) ?_
  refine z_iload_n S dX10_show_53 rfl 1 rfl ?_
  refine z_imul S dX10_show_54 ?_
  refine z_iadd S dX10_show_55 ?_
  refine z_iconst (v := 3) S dX10_show_56 (by decide) ?_
  refine z_iadd S dX10_show_57 ?_
  refine z_iload_n S dX10_show_58 rfl 2 rfl ?_
  refine z_if_eq (tgt := 66) S he dX10_show_59 (by decide) (fun he => ?_) (fun he => ?_)
  · refine z_iconst (v := 0) S dX10_show_66 (by decide) ?_
    refine z_lv (ks := [2, 3]) rfl ?_
    exact p_X10_show_J67 S  he
  · refine z_iconst (v := 1) S dX10_show_62 (by decide) ?_
    refine z_goto (tgt := 67) S dX10_show_63 (by decide) ?_
    refine z_lv (ks := [2, 3]) rfl ?_
    exact p_X10_show_J67 S  he
set_option maxRecDepth 100000 in
set_option maxHeartbeats 4000000 in
theorem p_X10_show_J14 {X : Cx} {p : Program} {l : Launch} {e : Env} {s : State} {m : MethodId} {args : Array Value} {below : List Frame} {meth : Method} {c : Code} (S : SB X 1 p s m args meth c cX10_show 4 (some .boolean) RX10) {M : Mm} {N : Mm} {r : Bool} {v1 : Int32} {v2 : Int32} {t0 : Int32}  (he : f_X10_show_J14 M v1 v2 t0 = some (r, N)) : Z X 1 p l e rm_X10_show s m args below meth c 0 0 (MQ below (QI X 1 (bI r) N s.heap.size) args s 0 0 (AA X 1 s.heap.size)) 4 M 14 [(0, .ref (X.2.2 200)), (1, .int v1), (2, .int v2)] [.int t0, .ref (X.2.2 200)] := by
  unfold f_X10_show_J14 at he
  refine z_putIb S fo_RX10_63p rfl ok_200 rfl rfl he dX10_show_14 (fun M2 he => ?_)
  refine z_aload_n S dX10_show_17 rfl 0 rfl ?_
  refine z_getI S fo_RX10_63 rfl ok_200 dX10_show_18 ?_
  refine z_if_le (tgt := 26) S he dX10_show_21 (by decide) (fun he => ?_) (fun he => ?_)
  · refine z_aload_n S dX10_show_26 rfl 0 rfl ?_
    obtain ⟨M3, h9, he⟩ := bnd he
    refine z_cVV (As := []) S cv_RX10_306 (K_X10_remembers  h9) ok_200 (by decide) (q := (RX10, TX10, 28)) rfl rfl ⟨rfl, rfl⟩ ⟨Nat.le_of_ble_eq_true rfl, Nat.le_of_ble_eq_true rfl⟩ ⟨Nat.le_refl _, Nat.le_refl _⟩ rfl rfl (Nat.le_of_ble_eq_true rfl) dX10_show_27 ?_
    refine z_aload_n S dX10_show_30 rfl 0 rfl ?_
    refine z_iload_n S dX10_show_31 rfl 1 rfl ?_
    refine z_iconst (v := 3) S dX10_show_32 (by decide) ?_
    obtain ⟨r4, h9, he⟩ := bnd he
    refine z_cVI (As := [.int v1, .int 3]) S cv_RX10_70 (K_X10_of  h9) ok_200 (by decide) (q := (RX10, TX10, 28)) rfl rfl ⟨rfl, rfl⟩ ⟨Nat.le_of_ble_eq_true rfl, Nat.le_of_ble_eq_true rfl⟩ ⟨Nat.le_refl _, Nat.le_refl _⟩ rfl rfl (Nat.le_of_ble_eq_true rfl) dX10_show_33 ?_
    refine z_iconst (v := 1) S dX10_show_36 (by decide) ?_
    refine z_icmp_ne (tgt := 44) S he dX10_show_37 (by decide) (fun he => ?_) (fun he => ?_)
    · refine z_iconst (v := 0) S dX10_show_44 (by decide) ?_
      exact p_X10_show_J45 S  he
    · refine z_iconst (v := 1) S dX10_show_40 (by decide) ?_
      refine z_goto (tgt := 45) S dX10_show_41 (by decide) ?_
      exact p_X10_show_J45 S  he
  · refine z_iconst (v := 0) S dX10_show_24 (by decide) ?_
    exact z_zret0 S (Prod.mk.inj (Option.some.inj he)) dX10_show_25
set_option maxRecDepth 100000 in
set_option maxHeartbeats 4000000 in
theorem K_X10_show {X : Cx} {l : Launch} {M : Mm} {a1 : Int32} {a2 : Int32} {r : Bool} {N : Mm}  (he : f_X10_show M a1 a2 = some (r, N)) : KI X 1 l yX10_show (wz yX10_show cX10_show 4 (some .boolean)) rm_X10_show [.ref (X.2.2 200), .int a1, .int a2] M (bI r) N := by
  intro sz
  refine K_of (Qc := (fun sz => QI X 1 (bI r) N sz)) (own := RX10) (lv0 := [(0, .ref (X.2.2 200)), (1, .int a1), (2, .int a2)]) (by decide +kernel) rfl (Nat.le_of_ble_eq_true rfl) rfl (fun p e s m args below meth c S => ?_) sz
  · unfold f_X10_show at he
    refine z_aload_n S dX10_show_0 rfl 0 rfl ?_
    refine z_aload_n S dX10_show_1 rfl 0 rfl ?_
    refine z_iload_n S dX10_show_2 rfl 1 rfl ?_
    obtain ⟨r1, h9, he⟩ := bnd he
    refine z_cVI (As := [.int a1]) S cv_RX10_285 (K_X10_isThing  h9) ok_200 (by decide) (q := (RX10, TX10, 28)) rfl rfl ⟨rfl, rfl⟩ ⟨Nat.le_of_ble_eq_true rfl, Nat.le_of_ble_eq_true rfl⟩ ⟨Nat.le_refl _, Nat.le_refl _⟩ rfl rfl (Nat.le_of_ble_eq_true rfl) dX10_show_3 ?_
    refine z_ifb_ne (tgt := 13) S he dX10_show_6 (by decide) (fun he => ?_) (fun he => ?_)
    · refine z_iconst (v := 0) S dX10_show_13 (by decide) ?_
      exact p_X10_show_J14 S  he
    · refine z_iconst (v := 1) S dX10_show_9 (by decide) ?_
      refine z_goto (tgt := 14) S dX10_show_10 (by decide) ?_
      exact p_X10_show_J14 S  he
set_option maxRecDepth 100000 in
set_option maxHeartbeats 4000000 in
theorem p_X10_steps_J21 {X : Cx} {p : Program} {l : Launch} {e : Env} {s : State} {m : MethodId} {args : Array Value} {below : List Frame} {meth : Method} {c : Code} (S : SB X 1 p s m args meth c cX10_steps 2 (some .int) RX10) {M : Mm} {N : Mm} {r : Int32} {v1 : Int32} {t0 : Int32}  (he : f_X10_steps_J21 M v1 t0 = some (r, N)) : Z X 1 p l e rm_X10_steps s m args below meth c 0 0 (MQ below (QI X 1 r N s.heap.size) args s 0 0 (AA X 1 s.heap.size)) 2 M 21 [(0, .ref (X.2.2 200)), (1, .int v1)] [.int t0, .ref (X.2.2 200)] := by
  unfold f_X10_steps_J21 at he
  refine z_putIb S fo_RX10_63p rfl ok_200 rfl rfl he dX10_steps_21 (fun M1 he => ?_)
  refine z_aload_n S dX10_steps_24 rfl 0 rfl ?_
  refine z_getI S fo_RX10_63 rfl ok_200 dX10_steps_25 ?_
  refine z_if_le (tgt := 33) S he dX10_steps_28 (by decide) (fun he => ?_) (fun he => ?_)
  · refine z_iload_n S dX10_steps_33 rfl 1 rfl ?_
    refine z_iconst (v := (-1)) S dX10_steps_34 (by decide) ?_
    refine z_icmp_ne (tgt := 59) S he dX10_steps_35 (by decide) (fun he => ?_) (fun he => ?_)
    · refine z_iload_n S dX10_steps_59 rfl 1 rfl ?_
      refine z_aload_n S dX10_steps_60 rfl 0 rfl ?_
      refine z_getF (j := 201) S fo_RX10_7 1 rfl rfl ok_200 dX10_steps_61 ?_
      refine z_iconst (v := 5) S dX10_steps_64 (by decide) ?_
      refine z_iald S ok_201 rfl he dX10_steps_65 (fun he => ?_)
      obtain ⟨hy9, he⟩ := grd he
      refine z_idiv S hy9 dX10_steps_66 ?_
      exact z_iret S (Prod.mk.inj (Option.some.inj he)) dX10_steps_67
    · refine z_bipush (v := 20) S dX10_steps_38 (by decide) ?_
      refine z_aload_n S dX10_steps_40 rfl 0 rfl ?_
      refine z_getF (j := 201) S fo_RX10_7 1 rfl rfl ok_200 dX10_steps_41 ?_
      refine z_iconst (v := 5) S dX10_steps_44 (by decide) ?_
      refine z_iald S ok_201 rfl he dX10_steps_45 (fun he => ?_)
      refine z_iadd S dX10_steps_46 ?_
      refine z_iconst (v := 1) S dX10_steps_47 (by decide) ?_
      refine z_isub S dX10_steps_48 ?_
      refine z_aload_n S dX10_steps_49 rfl 0 rfl ?_
      refine z_getF (j := 201) S fo_RX10_7 1 rfl rfl ok_200 dX10_steps_50 ?_
      refine z_iconst (v := 5) S dX10_steps_53 (by decide) ?_
      refine z_iald S ok_201 rfl he dX10_steps_54 (fun he => ?_)
      obtain ⟨hy9, he⟩ := grd he
      refine z_idiv S hy9 dX10_steps_55 ?_
      refine z_goto (tgt := 67) S dX10_steps_56 (by decide) ?_
      exact z_iret S (Prod.mk.inj (Option.some.inj he)) dX10_steps_67
  · refine z_iconst (v := 0) S dX10_steps_31 (by decide) ?_
    exact z_iret S (Prod.mk.inj (Option.some.inj he)) dX10_steps_32
set_option maxRecDepth 100000 in
set_option maxHeartbeats 4000000 in
theorem p_X10_steps_J20 {X : Cx} {p : Program} {l : Launch} {e : Env} {s : State} {m : MethodId} {args : Array Value} {below : List Frame} {meth : Method} {c : Code} (S : SB X 1 p s m args meth c cX10_steps 2 (some .int) RX10) {M : Mm} {N : Mm} {r : Int32} {v1 : Int32}  (he : f_X10_steps_J20 M v1 = some (r, N)) : Z X 1 p l e rm_X10_steps s m args below meth c 0 0 (MQ below (QI X 1 r N s.heap.size) args s 0 0 (AA X 1 s.heap.size)) 2 M 20 [(0, .ref (X.2.2 200)), (1, .int v1)] [.ref (X.2.2 200)] := by
  unfold f_X10_steps_J20 at he
  refine z_iconst (v := 0) S dX10_steps_20 (by decide) ?_
  exact p_X10_steps_J21 S  he
set_option maxRecDepth 100000 in
set_option maxHeartbeats 4000000 in
theorem K_X10_steps {X : Cx} {l : Launch} {M : Mm} {a1 : Int32} {r : Int32} {N : Mm}  (he : f_X10_steps M a1 = some (r, N)) : KI X 1 l yX10_steps (wz yX10_steps cX10_steps 2 (some .int)) rm_X10_steps [.ref (X.2.2 200), .int a1] M r N := by
  intro sz
  refine K_of (Qc := (fun sz => QI X 1 r N sz)) (own := RX10) (lv0 := [(0, .ref (X.2.2 200)), (1, .int a1)]) (by decide +kernel) rfl (Nat.le_of_ble_eq_true rfl) rfl (fun p e s m args below meth c S => ?_) sz
  · unfold f_X10_steps at he
    refine z_aload_n S dX10_steps_0 rfl 0 rfl ?_
    refine z_iload_n S dX10_steps_1 rfl 1 rfl ?_
    refine z_iconst (v := (-1)) S dX10_steps_2 (by decide) ?_
    refine z_icmp_eq (tgt := 20) S he dX10_steps_3 (by decide) (fun he => ?_) (fun he => ?_)
    · exact p_X10_steps_J20 S  he
    · refine z_iload_n S dX10_steps_6 rfl 1 rfl ?_
      refine z_iconst (v := 0) S dX10_steps_7 (by decide) ?_
      refine z_bipush (v := 19) S dX10_steps_8 (by decide) ?_
      refine z_cSI (As := [.int a1, .int 0, .int 19]) S cs_RX10_66 (K_X10_isIn  rfl) ⟨rfl, rfl⟩ ⟨Nat.le_of_ble_eq_true rfl, Nat.le_of_ble_eq_true rfl⟩ ⟨Nat.le_refl _, Nat.le_refl _⟩ rfl rfl (Nat.le_of_ble_eq_true rfl) dX10_steps_10 ?_
      refine z_ifb_ne (tgt := 20) S he dX10_steps_13 (by decide) (fun he => ?_) (fun he => ?_)
      · exact p_X10_steps_J20 S  he
      · refine z_iconst (v := 1) S dX10_steps_16 (by decide) ?_
        refine z_goto (tgt := 21) S dX10_steps_17 (by decide) ?_
        exact p_X10_steps_J21 S  he
set_option maxRecDepth 100000 in
set_option maxHeartbeats 4000000 in
theorem K_X10_thrown {X : Cx} {l : Launch} {M : Mm} {r : Int32}  (he : f_X10_thrown M  = r) : KI X 1 l yX10_thrown (wz yX10_thrown cX10_thrown 1 (some .int)) rm_X10_thrown [.ref (X.2.2 200)] M r M := by
  intro sz
  refine K_of (Qc := (fun sz => QI X 1 r M sz)) (own := RX10) (lv0 := [(0, .ref (X.2.2 200))]) (by decide +kernel) rfl (Nat.le_of_ble_eq_true rfl) rfl (fun p e s m args below meth c S => ?_) sz
  · unfold f_X10_thrown at he
    refine z_aload_n S dX10_thrown_0 rfl 0 rfl ?_
    refine z_getI S fo_RX10_63 rfl ok_200 dX10_thrown_1 ?_
    exact z_iret S (⟨he, rfl⟩) dX10_thrown_4
set_option maxRecDepth 100000 in
set_option maxHeartbeats 4000000 in
theorem p_X10_trade_L48 {X : Cx} {p : Program} {l : Launch} {e : Env} {s : State} {m : MethodId} {args : Array Value} {below : List Frame} {meth : Method} {c : Code} (S : SB X 1 p s m args meth c cX10_trade 5 none RX10) {M : Mm} {N : Mm} {v1 : Int32} {v2 : Int32} {v3 : Int32} {x : (Mm × Int32) ⊕ Mm}  (he : f_X10_trade_L48 M v1 v2 v3 = some x) (hc : ∀ b, x = .inl b → Z X 1 p l e rm_X10_trade s m args below meth c 0 0 (MQ below (QV X 1 N s.heap.size) args s 0 0 (AA X 1 s.heap.size)) 5 b.1 48 [(0, .ref (X.2.2 200)), (1, .int v1), (2, .int v2), (3, .int b.2)] []) (hx : ∀ b, x = .inr b → Z X 1 p l e rm_X10_trade s m args below meth c 0 0 (MQ below (QV X 1 N s.heap.size) args s 0 0 (AA X 1 s.heap.size)) 5 b 101 [] []) : Z X 1 p l e rm_X10_trade s m args below meth c 0 0 (MQ below (QV X 1 N s.heap.size) args s 0 0 (AA X 1 s.heap.size)) 5 M 48 [(0, .ref (X.2.2 200)), (1, .int v1), (2, .int v2), (3, .int v3)] [] := by
  unfold f_X10_trade_L48 at he
  refine z_iload_n S dX10_trade_48 rfl 3 rfl ?_
  refine z_iconst (v := 5) S dX10_trade_49 (by decide) ?_
  refine z_icmp_ge (tgt := 101) S he dX10_trade_50 (by decide) (fun he => ?_) (fun he => ?_)
  · refine z_lv (ks := []) rfl ?_
    exact hx _ (Option.some.inj he).symm
  · refine z_aload_n S dX10_trade_53 rfl 0 rfl ?_
    refine z_iload_n S dX10_trade_54 rfl 1 rfl ?_
    refine z_iload_n S dX10_trade_55 rfl 3 rfl ?_
    obtain ⟨r4, h9, he⟩ := bnd he
    refine z_cVI (As := [.int v1, .int v3]) S cv_RX10_246 (K_X10_ofOne  h9) ok_200 (by decide) (q := (RX10, TX10, 28)) rfl rfl ⟨rfl, rfl⟩ ⟨Nat.le_of_ble_eq_true rfl, Nat.le_of_ble_eq_true rfl⟩ ⟨Nat.le_refl _, Nat.le_refl _⟩ rfl rfl (Nat.le_of_ble_eq_true rfl) dX10_trade_56 ?_
    refine z_istore (lv' := [(0, .ref (X.2.2 200)), (1, .int v1), (2, .int v2), (3, .int v3), (4, .int r4)]) S [1, 2, 3, 4, 0] dX10_trade_59 (by decide) rfl ?_
    refine z_aload_n S dX10_trade_61 rfl 0 rfl ?_
    refine z_getF (j := 201) S fo_RX10_7 1 rfl rfl ok_200 dX10_trade_62 ?_
    refine z_bipush (v := 57) S dX10_trade_65 (by decide) ?_
    refine z_iconst (v := 5) S dX10_trade_67 (by decide) ?_
    refine z_iload_n S dX10_trade_68 rfl 1 rfl ?_
    refine z_imul S dX10_trade_69 ?_
    refine z_iadd S dX10_trade_70 ?_
    refine z_iload_n S dX10_trade_71 rfl 3 rfl ?_
    refine z_iadd S dX10_trade_72 ?_
    refine z_aload_n S dX10_trade_73 rfl 0 rfl ?_
    refine z_iload_n S dX10_trade_74 rfl 2 rfl ?_
    refine z_iload_n S dX10_trade_75 rfl 3 rfl ?_
    obtain ⟨r5, h9, he⟩ := bnd he
    refine z_cVI (As := [.int v2, .int v3]) S cv_RX10_246 (K_X10_ofOne  h9) ok_200 (by decide) (q := (RX10, TX10, 28)) rfl rfl ⟨rfl, rfl⟩ ⟨Nat.le_of_ble_eq_true rfl, Nat.le_of_ble_eq_true rfl⟩ ⟨Nat.le_refl _, Nat.le_refl _⟩ rfl rfl (Nat.le_of_ble_eq_true rfl) dX10_trade_76 ?_
    refine z_iastb S ok_201 rfl he dX10_trade_79 (fun M6 he => ?_)
    refine z_aload_n S dX10_trade_80 rfl 0 rfl ?_
    refine z_getF (j := 201) S fo_RX10_7 1 rfl rfl ok_200 dX10_trade_81 ?_
    refine z_bipush (v := 57) S dX10_trade_84 (by decide) ?_
    refine z_iconst (v := 5) S dX10_trade_86 (by decide) ?_
    refine z_iload_n S dX10_trade_87 rfl 2 rfl ?_
    refine z_imul S dX10_trade_88 ?_
    refine z_iadd S dX10_trade_89 ?_
    refine z_iload_n S dX10_trade_90 rfl 3 rfl ?_
    refine z_iadd S dX10_trade_91 ?_
    refine z_iload S dX10_trade_92 4 rfl ?_
    refine z_iastb S ok_201 rfl he dX10_trade_94 (fun M7 he => ?_)
    refine z_iinc (v := (v3 + 1)) (lv' := [(0, .ref (X.2.2 200)), (1, .int v1), (2, .int v2), (3, .int (v3 + 1)), (4, .int r4)]) S [1, 2, 3, 0, 4] 3 dX10_trade_95 rfl (by rfl) (by decide) rfl ?_
    refine z_goto (tgt := 48) S dX10_trade_98 (by decide) ?_
    refine z_lv (ks := [0, 1, 2, 3]) rfl ?_
    exact hc _ (Option.some.inj he).symm
set_option maxRecDepth 100000 in
set_option maxHeartbeats 4000000 in
theorem p_X10_trade_J31 {X : Cx} {p : Program} {l : Launch} {e : Env} {s : State} {m : MethodId} {args : Array Value} {below : List Frame} {meth : Method} {c : Code} (S : SB X 1 p s m args meth c cX10_trade 5 none RX10) {M : Mm} {N : Mm} {v1 : Int32} {v2 : Int32} {t0 : Int32}  (he : f_X10_trade_J31 M v1 v2 t0 = some N) : Z X 1 p l e rm_X10_trade s m args below meth c 0 0 (MQ below (QV X 1 N s.heap.size) args s 0 0 (AA X 1 s.heap.size)) 5 M 31 [(0, .ref (X.2.2 200)), (1, .int v1), (2, .int v2)] [.int t0, .ref (X.2.2 200)] := by
  unfold f_X10_trade_J31 at he
  refine z_putIb S fo_RX10_63p rfl ok_200 rfl rfl he dX10_trade_31 (fun M2 he => ?_)
  refine z_aload_n S dX10_trade_34 rfl 0 rfl ?_
  refine z_getI S fo_RX10_63 rfl ok_200 dX10_trade_35 ?_
  refine z_if_le (tgt := 42) S he dX10_trade_38 (by decide) (fun he => ?_) (fun he => ?_)
  · refine z_aload_n S dX10_trade_42 rfl 0 rfl ?_
    obtain ⟨M3, h9, he⟩ := bnd he
    refine z_cVV (As := []) S cv_RX10_306 (K_X10_remembers  h9) ok_200 (by decide) (q := (RX10, TX10, 28)) rfl rfl ⟨rfl, rfl⟩ ⟨Nat.le_of_ble_eq_true rfl, Nat.le_of_ble_eq_true rfl⟩ ⟨Nat.le_refl _, Nat.le_refl _⟩ rfl rfl (Nat.le_of_ble_eq_true rfl) dX10_trade_43 ?_
    refine z_iconst (v := 0) S dX10_trade_46 (by decide) ?_
    refine z_istore_n (lv' := [(0, .ref (X.2.2 200)), (1, .int v1), (2, .int v2), (3, .int 0)]) S [1, 2, 3, 0] dX10_trade_47 rfl (by decide) rfl ?_
    obtain ⟨e_8, hl, he⟩ := bnd he
    have hX : Z X 1 p l e rm_X10_trade s m args below meth c 0 0 (MQ below (QV X 1 N s.heap.size) args s 0 0 (AA X 1 s.heap.size)) 5 e_8 101 [] [] := by
      exact z_vret S (Option.some.inj he) dX10_trade_101
    exact loopZ (Zh := (fun a_8 => Z X 1 p l e rm_X10_trade s m args below meth c 0 0 (MQ below (QV X 1 N s.heap.size) args s 0 0 (AA X 1 s.heap.size)) 5 a_8.1 48 [(0, .ref (X.2.2 200)), (1, .int v1), (2, .int v2), (3, .int a_8.2)] [])) (fun a_8 x hb hc hr => p_X10_trade_L48 S  hb hc (fun b hxe => by rw [hr b hxe]; exact hX)) FU _ hl
  · exact z_vret S (Option.some.inj he) dX10_trade_41
set_option maxRecDepth 100000 in
set_option maxHeartbeats 4000000 in
theorem p_X10_trade_J17 {X : Cx} {p : Program} {l : Launch} {e : Env} {s : State} {m : MethodId} {args : Array Value} {below : List Frame} {meth : Method} {c : Code} (S : SB X 1 p s m args meth c cX10_trade 5 none RX10) {M : Mm} {N : Mm} {v1 : Int32} {v2 : Int32}  (he : f_X10_trade_J17 M v1 v2 = some N) : Z X 1 p l e rm_X10_trade s m args below meth c 0 0 (MQ below (QV X 1 N s.heap.size) args s 0 0 (AA X 1 s.heap.size)) 5 M 17 [(0, .ref (X.2.2 200)), (1, .int v1), (2, .int v2)] [.ref (X.2.2 200)] := by
  unfold f_X10_trade_J17 at he
  refine z_iconst (v := 1) S dX10_trade_17 (by decide) ?_
  refine z_goto (tgt := 31) S dX10_trade_18 (by decide) ?_
  exact p_X10_trade_J31 S  he
set_option maxRecDepth 100000 in
set_option maxHeartbeats 4000000 in
theorem K_X10_trade {X : Cx} {l : Launch} {M : Mm} {a1 : Int32} {a2 : Int32} {N : Mm}  (he : f_X10_trade M a1 a2 = some N) : KV X 1 l yX10_trade (wz yX10_trade cX10_trade 5 none) rm_X10_trade [.ref (X.2.2 200), .int a1, .int a2] M N := by
  intro sz
  refine K_of (Qc := (fun sz => QV X 1 N sz)) (own := RX10) (lv0 := [(0, .ref (X.2.2 200)), (1, .int a1), (2, .int a2)]) (by decide +kernel) rfl (Nat.le_of_ble_eq_true rfl) rfl (fun p e s m args below meth c S => ?_) sz
  · unfold f_X10_trade at he
    refine z_aload_n S dX10_trade_0 rfl 0 rfl ?_
    refine z_aload_n S dX10_trade_1 rfl 0 rfl ?_
    refine z_iload_n S dX10_trade_2 rfl 1 rfl ?_
    obtain ⟨r1, h9, he⟩ := bnd he
    refine z_cVI (As := [.int a1]) S cv_RX10_300 (K_X10_isVisitor  h9) ok_200 (by decide) (q := (RX10, TX10, 28)) rfl rfl ⟨rfl, rfl⟩ ⟨Nat.le_of_ble_eq_true rfl, Nat.le_of_ble_eq_true rfl⟩ ⟨Nat.le_refl _, Nat.le_refl _⟩ rfl rfl (Nat.le_of_ble_eq_true rfl) dX10_trade_3 ?_
    refine z_ifb_eq (tgt := 17) S he dX10_trade_6 (by decide) (fun he => ?_) (fun he => ?_)
    · exact p_X10_trade_J17 S  he
    · refine z_aload_n S dX10_trade_9 rfl 0 rfl ?_
      refine z_iload_n S dX10_trade_10 rfl 2 rfl ?_
      obtain ⟨r9, h9, he⟩ := bnd he
      refine z_cVI (As := [.int a2]) S cv_RX10_300 (K_X10_isVisitor  h9) ok_200 (by decide) (q := (RX10, TX10, 28)) rfl rfl ⟨rfl, rfl⟩ ⟨Nat.le_of_ble_eq_true rfl, Nat.le_of_ble_eq_true rfl⟩ ⟨Nat.le_refl _, Nat.le_refl _⟩ rfl rfl (Nat.le_of_ble_eq_true rfl) dX10_trade_11 ?_
      refine z_ifb_ne (tgt := 21) S he dX10_trade_14 (by decide) (fun he => ?_) (fun he => ?_)
      · refine z_iload_n S dX10_trade_21 rfl 1 rfl ?_
        refine z_iload_n S dX10_trade_22 rfl 2 rfl ?_
        refine z_icmp_ne (tgt := 30) S he dX10_trade_23 (by decide) (fun he => ?_) (fun he => ?_)
        · refine z_iconst (v := 0) S dX10_trade_30 (by decide) ?_
          exact p_X10_trade_J31 S  he
        · refine z_iconst (v := 2) S dX10_trade_26 (by decide) ?_
          refine z_goto (tgt := 31) S dX10_trade_27 (by decide) ?_
          exact p_X10_trade_J31 S  he
      · exact p_X10_trade_J17 S  he
set_option maxRecDepth 100000 in
set_option maxHeartbeats 4000000 in
theorem p_X10_undo_L26 {X : Cx} {p : Program} {l : Launch} {e : Env} {s : State} {m : MethodId} {args : Array Value} {below : List Frame} {meth : Method} {c : Code} (S : SB X 1 p s m args meth c cX10_undo 2 (some .boolean) RX10) {M : Mm} {N : Mm} {r : Bool} {v1 : Int32} {x : (Mm × Int32) ⊕ Mm}  (he : f_X10_undo_L26 M v1 = some x) (hc : ∀ b, x = .inl b → Z X 1 p l e rm_X10_undo s m args below meth c 0 0 (MQ below (QI X 1 (bI r) N s.heap.size) args s 0 0 (AA X 1 s.heap.size)) 2 b.1 26 [(0, .ref (X.2.2 200)), (1, .int b.2)] []) (hx : ∀ b, x = .inr b → Z X 1 p l e rm_X10_undo s m args below meth c 0 0 (MQ below (QI X 1 (bI r) N s.heap.size) args s 0 0 (AA X 1 s.heap.size)) 2 b 60 [] []) : Z X 1 p l e rm_X10_undo s m args below meth c 0 0 (MQ below (QI X 1 (bI r) N s.heap.size) args s 0 0 (AA X 1 s.heap.size)) 2 M 26 [(0, .ref (X.2.2 200)), (1, .int v1)] [] := by
  unfold f_X10_undo_L26 at he
  refine z_iload_n S dX10_undo_26 rfl 1 rfl ?_
  refine z_sipush (v := 407) S dX10_undo_27 (by decide) ?_
  refine z_icmp_ge (tgt := 60) S he dX10_undo_30 (by decide) (fun he => ?_) (fun he => ?_)
  · refine z_lv (ks := []) rfl ?_
    exact hx _ (Option.some.inj he).symm
  · refine z_aload_n S dX10_undo_33 rfl 0 rfl ?_
    refine z_getF (j := 201) S fo_RX10_7 1 rfl rfl ok_200 dX10_undo_34 ?_
    refine z_iload_n S dX10_undo_37 rfl 1 rfl ?_
    refine z_aload_n S dX10_undo_38 rfl 0 rfl ?_
    refine z_getF (j := 204) S fo_RX10_19 4 rfl rfl ok_200 dX10_undo_39 ?_
    refine z_sipush (v := 407) S dX10_undo_42 (by decide) ?_
    refine z_aload_n S dX10_undo_45 rfl 0 rfl ?_
    refine z_getI S fo_RX10_184 rfl ok_200 dX10_undo_46 ?_
    refine z_imul S dX10_undo_49 ?_
    refine z_iload_n S dX10_undo_50 rfl 1 rfl ?_
    refine z_iadd S dX10_undo_51 ?_
    refine z_iald S ok_204 rfl he dX10_undo_52 (fun he => ?_)
    refine z_iastb S ok_201 rfl he dX10_undo_53 (fun M3 he => ?_)
    refine z_iinc (v := (v1 + 1)) (lv' := [(0, .ref (X.2.2 200)), (1, .int (v1 + 1))]) S [1, 0] 1 dX10_undo_54 rfl (by rfl) (by decide) rfl ?_
    refine z_goto (tgt := 26) S dX10_undo_57 (by decide) ?_
    refine z_lv (ks := [0, 1]) rfl ?_
    exact hc _ (Option.some.inj he).symm
set_option maxRecDepth 100000 in
set_option maxHeartbeats 4000000 in
theorem K_X10_undo {X : Cx} {l : Launch} {M : Mm} {r : Bool} {N : Mm}  (he : f_X10_undo M  = some (r, N)) : KI X 1 l yX10_undo (wz yX10_undo cX10_undo 2 (some .boolean)) rm_X10_undo [.ref (X.2.2 200)] M (bI r) N := by
  intro sz
  refine K_of (Qc := (fun sz => QI X 1 (bI r) N sz)) (own := RX10) (lv0 := [(0, .ref (X.2.2 200))]) (by decide +kernel) rfl (Nat.le_of_ble_eq_true rfl) rfl (fun p e s m args below meth c S => ?_) sz
  · unfold f_X10_undo at he
    refine z_aload_n S dX10_undo_0 rfl 0 rfl ?_
    refine z_iconst (v := 0) S dX10_undo_1 (by decide) ?_
    refine z_putIb S fo_RX10_63p rfl ok_200 rfl rfl he dX10_undo_2 (fun M1 he => ?_)
    refine z_aload_n S dX10_undo_5 rfl 0 rfl ?_
    refine z_getI S fo_RX10_184 rfl ok_200 dX10_undo_6 ?_
    refine z_if_ne (tgt := 14) S he dX10_undo_9 (by decide) (fun he => ?_) (fun he => ?_)
    · refine z_aload_n S dX10_undo_14 rfl 0 rfl ?_
      refine z_dup S rfl dX10_undo_15 ?_
      refine z_getI S fo_RX10_184 rfl ok_200 dX10_undo_16 ?_
      refine z_iconst (v := 1) S dX10_undo_19 (by decide) ?_
      refine z_isub S dX10_undo_20 ?_
      refine z_putIb S fo_RX10_184p rfl ok_200 rfl rfl he dX10_undo_21 (fun M2 he => ?_)
      refine z_iconst (v := 0) S dX10_undo_24 (by decide) ?_
      refine z_istore_n (lv' := [(0, .ref (X.2.2 200)), (1, .int 0)]) S [1, 0] dX10_undo_25 rfl (by decide) rfl ?_
      obtain ⟨e_4, hl, he⟩ := bnd he
      have hX : Z X 1 p l e rm_X10_undo s m args below meth c 0 0 (MQ below (QI X 1 (bI r) N s.heap.size) args s 0 0 (AA X 1 s.heap.size)) 2 e_4 60 [] [] := by
        refine z_iconst (v := 1) S dX10_undo_60 (by decide) ?_
        exact z_zret1 S (Prod.mk.inj (Option.some.inj he)) dX10_undo_61
      exact loopZ (Zh := (fun a_4 => Z X 1 p l e rm_X10_undo s m args below meth c 0 0 (MQ below (QI X 1 (bI r) N s.heap.size) args s 0 0 (AA X 1 s.heap.size)) 2 a_4.1 26 [(0, .ref (X.2.2 200)), (1, .int a_4.2)] [])) (fun a_4 x hb hc hr => p_X10_undo_L26 S  hb hc (fun b hxe => by rw [hr b hxe]; exact hX)) FU _ hl
    · refine z_iconst (v := 0) S dX10_undo_12 (by decide) ?_
      exact z_zret0 S (Prod.mk.inj (Option.some.inj he)) dX10_undo_13
set_option maxRecDepth 100000 in
set_option maxHeartbeats 4000000 in
theorem p_X10_wants_L39 {X : Cx} {p : Program} {l : Launch} {e : Env} {s : State} {m : MethodId} {args : Array Value} {below : List Frame} {meth : Method} {c : Code} (S : SB X 1 p s m args meth c cX10_wants 5 (some .int) RX10) {M : Mm} {N : Mm} {r : Int32} {v3 : Int32} {v4 : Int32} {x : (Int32 × Int32) ⊕ Int32}  (he : f_X10_wants_L39 M v3 v4 = some x) (hc : ∀ b, x = .inl b → Z X 1 p l e rm_X10_wants s m args below meth c 0 0 (MQ below (QI X 1 r N s.heap.size) args s 0 0 (AA X 1 s.heap.size)) 5 M 39 [(0, .ref (X.2.2 200)), (3, .int b.1), (4, .int b.2)] []) (hx : ∀ b, x = .inr b → Z X 1 p l e rm_X10_wants s m args below meth c 0 0 (MQ below (QI X 1 r N s.heap.size) args s 0 0 (AA X 1 s.heap.size)) 5 M 82 [(3, .int b)] []) : Z X 1 p l e rm_X10_wants s m args below meth c 0 0 (MQ below (QI X 1 r N s.heap.size) args s 0 0 (AA X 1 s.heap.size)) 5 M 39 [(0, .ref (X.2.2 200)), (3, .int v3), (4, .int v4)] [] := by
  unfold f_X10_wants_L39 at he
  refine z_iload S dX10_wants_39 2 rfl ?_
  refine z_bipush (v := 64) S dX10_wants_41 (by decide) ?_
  refine z_icmp_ge (tgt := 82) S he dX10_wants_43 (by decide) (fun he => ?_) (fun he => ?_)
  · refine z_lv (ks := [1]) rfl ?_
    exact hx _ (Option.some.inj he).symm
  · refine z_aload_n S dX10_wants_46 rfl 0 rfl ?_
    refine z_getF (j := 216) S fo_RX10_59 16 rfl rfl ok_200 dX10_wants_47 ?_
    refine z_iload S dX10_wants_50 2 rfl ?_
    refine z_zald S ok_216 rfl he dX10_wants_52 (fun he => ?_)
    refine z_if_eq (tgt := 76) S he dX10_wants_53 (by decide) (fun he => ?_) (fun he => ?_)
    · refine z_iinc (v := (v4 + 1)) (lv' := [(0, .ref (X.2.2 200)), (3, .int v3), (4, .int (v4 + 1))]) S [1, 2, 0] 2 dX10_wants_76 rfl (by rfl) (by decide) rfl ?_
      refine z_goto (tgt := 39) S dX10_wants_79 (by decide) ?_
      refine z_lv (ks := [0, 1, 2]) rfl ?_
      exact hc _ (Option.some.inj he).symm
    · refine z_iload_n S dX10_wants_56 rfl 1 rfl ?_
      refine z_iconst (v := (-1)) S dX10_wants_57 (by decide) ?_
      refine z_icmp_eq (tgt := 73) S he dX10_wants_58 (by decide) (fun he => ?_) (fun he => ?_)
      · refine z_iload S dX10_wants_73 2 rfl ?_
        refine z_istore_n (lv' := [(0, .ref (X.2.2 200)), (3, .int v4), (4, .int v4)]) S [1, 0, 2] dX10_wants_75 rfl (by decide) rfl ?_
        refine z_iinc (v := (v4 + 1)) (lv' := [(0, .ref (X.2.2 200)), (3, .int v4), (4, .int (v4 + 1))]) S [1, 2, 0] 2 dX10_wants_76 rfl (by rfl) (by decide) rfl ?_
        refine z_goto (tgt := 39) S dX10_wants_79 (by decide) ?_
        refine z_lv (ks := [0, 1, 2]) rfl ?_
        exact hc _ (Option.some.inj he).symm
      · refine z_iload S dX10_wants_61 2 rfl ?_
        obtain ⟨r4, h9, he⟩ := bnd he
        refine z_cSI (As := [.int v4]) S cs_RX10_321 (K_X10_bits  h9) ⟨rfl, rfl⟩ ⟨Nat.le_of_ble_eq_true rfl, Nat.le_of_ble_eq_true rfl⟩ ⟨Nat.le_refl _, Nat.le_refl _⟩ rfl rfl (Nat.le_of_ble_eq_true rfl) dX10_wants_63 ?_
        refine z_iload_n S dX10_wants_66 rfl 1 rfl ?_
        obtain ⟨r5, h9, he⟩ := bnd he
        refine z_cSI (As := [.int v3]) S cs_RX10_321 (K_X10_bits  h9) ⟨rfl, rfl⟩ ⟨Nat.le_of_ble_eq_true rfl, Nat.le_of_ble_eq_true rfl⟩ ⟨Nat.le_refl _, Nat.le_refl _⟩ rfl rfl (Nat.le_of_ble_eq_true rfl) dX10_wants_67 ?_
        refine z_icmp_ge (tgt := 76) S he dX10_wants_70 (by decide) (fun he => ?_) (fun he => ?_)
        · refine z_iinc (v := (v4 + 1)) (lv' := [(0, .ref (X.2.2 200)), (3, .int v3), (4, .int (v4 + 1))]) S [1, 2, 0] 2 dX10_wants_76 rfl (by rfl) (by decide) rfl ?_
          refine z_goto (tgt := 39) S dX10_wants_79 (by decide) ?_
          refine z_lv (ks := [0, 1, 2]) rfl ?_
          exact hc _ (Option.some.inj he).symm
        · refine z_iload S dX10_wants_73 2 rfl ?_
          refine z_istore_n (lv' := [(0, .ref (X.2.2 200)), (3, .int v4), (4, .int v4)]) S [1, 0, 2] dX10_wants_75 rfl (by decide) rfl ?_
          refine z_iinc (v := (v4 + 1)) (lv' := [(0, .ref (X.2.2 200)), (3, .int v4), (4, .int (v4 + 1))]) S [1, 2, 0] 2 dX10_wants_76 rfl (by rfl) (by decide) rfl ?_
          refine z_goto (tgt := 39) S dX10_wants_79 (by decide) ?_
          refine z_lv (ks := [0, 1, 2]) rfl ?_
          exact hc _ (Option.some.inj he).symm
set_option maxRecDepth 100000 in
set_option maxHeartbeats 4000000 in
theorem p_X10_wants_J16 {X : Cx} {p : Program} {l : Launch} {e : Env} {s : State} {m : MethodId} {args : Array Value} {below : List Frame} {meth : Method} {c : Code} (S : SB X 1 p s m args meth c cX10_wants 5 (some .int) RX10) {M : Mm} {N : Mm} {r : Int32} {v1 : Int32} {v2 : Int32} {t0 : Int32}  (he : f_X10_wants_J16 M v1 v2 t0 = some (r, N)) : Z X 1 p l e rm_X10_wants s m args below meth c 0 0 (MQ below (QI X 1 r N s.heap.size) args s 0 0 (AA X 1 s.heap.size)) 5 M 16 [(0, .ref (X.2.2 200)), (1, .int v1), (2, .int v2)] [.int t0, .ref (X.2.2 200)] := by
  unfold f_X10_wants_J16 at he
  refine z_putIb S fo_RX10_63p rfl ok_200 rfl rfl he dX10_wants_16 (fun M3 he => ?_)
  refine z_aload_n S dX10_wants_19 rfl 0 rfl ?_
  refine z_getI S fo_RX10_63 rfl ok_200 dX10_wants_20 ?_
  refine z_if_le (tgt := 28) S he dX10_wants_23 (by decide) (fun he => ?_) (fun he => ?_)
  · refine z_iload_n S dX10_wants_28 rfl 1 rfl ?_
    refine z_if_ne (tgt := 34) S he dX10_wants_29 (by decide) (fun he => ?_) (fun he => ?_)
    · refine z_iconst (v := (-1)) S dX10_wants_34 (by decide) ?_
      refine z_istore_n (lv' := [(0, .ref (X.2.2 200)), (3, .int (-1))]) S [1, 0] dX10_wants_35 rfl (by decide) rfl ?_
      refine z_iconst (v := 0) S dX10_wants_36 (by decide) ?_
      refine z_istore (lv' := [(0, .ref (X.2.2 200)), (3, .int (-1)), (4, .int 0)]) S [1, 2, 0] dX10_wants_37 (by decide) rfl ?_
      obtain ⟨e_6, hl, he⟩ := bnd he
      have hX : Z X 1 p l e rm_X10_wants s m args below meth c 0 0 (MQ below (QI X 1 r N s.heap.size) args s 0 0 (AA X 1 s.heap.size)) 5 M3 82 [(3, .int e_6)] [] := by
        refine z_iload_n S dX10_wants_82 rfl 0 rfl ?_
        exact z_iret S (Prod.mk.inj (Option.some.inj he)) dX10_wants_83
      exact loopZ (Zh := (fun a_6 => Z X 1 p l e rm_X10_wants s m args below meth c 0 0 (MQ below (QI X 1 r N s.heap.size) args s 0 0 (AA X 1 s.heap.size)) 5 M3 39 [(0, .ref (X.2.2 200)), (3, .int a_6.1), (4, .int a_6.2)] [])) (fun a_6 x hb hc hr => p_X10_wants_L39 S  hb hc (fun b hxe => by rw [hr b hxe]; exact hX)) FU _ hl
    · refine z_iload_n S dX10_wants_32 rfl 2 rfl ?_
      exact z_iret S (Prod.mk.inj (Option.some.inj he)) dX10_wants_33
  · refine z_iconst (v := 0) S dX10_wants_26 (by decide) ?_
    exact z_iret S (Prod.mk.inj (Option.some.inj he)) dX10_wants_27
set_option maxRecDepth 100000 in
set_option maxHeartbeats 4000000 in
theorem K_X10_wants {X : Cx} {l : Launch} {M : Mm} {a1 : Int32} {r : Int32} {N : Mm}  (he : f_X10_wants M a1 = some (r, N)) : KI X 1 l yX10_wants (wz yX10_wants cX10_wants 5 (some .int)) rm_X10_wants [.ref (X.2.2 200), .int a1] M r N := by
  intro sz
  refine K_of (Qc := (fun sz => QI X 1 r N sz)) (own := RX10) (lv0 := [(0, .ref (X.2.2 200)), (1, .int a1)]) (by decide +kernel) rfl (Nat.le_of_ble_eq_true rfl) rfl (fun p e s m args below meth c S => ?_) sz
  · unfold f_X10_wants at he
    refine z_aload_n S dX10_wants_0 rfl 0 rfl ?_
    obtain ⟨⟨r1, M2⟩, h9, he⟩ := bnd he
    dsimp only at he
    refine z_cVI (As := []) S cv_RX10_341 (K_X10_wanted  h9) ok_200 (by decide) (q := (RX10, TX10, 28)) rfl rfl ⟨rfl, rfl⟩ ⟨Nat.le_of_ble_eq_true rfl, Nat.le_of_ble_eq_true rfl⟩ ⟨Nat.le_refl _, Nat.le_refl _⟩ rfl rfl (Nat.le_of_ble_eq_true rfl) dX10_wants_1 ?_
    refine z_istore_n (lv' := [(0, .ref (X.2.2 200)), (1, .int a1), (2, .int r1)]) S [1, 2, 0] dX10_wants_4 rfl (by decide) rfl ?_
    refine z_aload_n S dX10_wants_5 rfl 0 rfl ?_
    refine z_iload_n S dX10_wants_6 rfl 2 rfl ?_
    refine z_iconst (v := (-1)) S dX10_wants_7 (by decide) ?_
    refine z_icmp_ne (tgt := 15) S he dX10_wants_8 (by decide) (fun he => ?_) (fun he => ?_)
    · refine z_iconst (v := 0) S dX10_wants_15 (by decide) ?_
      exact p_X10_wants_J16 S  he
    · refine z_iconst (v := 1) S dX10_wants_11 (by decide) ?_
      refine z_goto (tgt := 16) S dX10_wants_12 (by decide) ?_
      exact p_X10_wants_J16 S  he
set_option maxRecDepth 100000 in
set_option maxHeartbeats 4000000 in
theorem p_X7_next_J23 {X : Cx} {p : Program} {l : Launch} {e : Env} {s : State} {m : MethodId} {args : Array Value} {below : List Frame} {meth : Method} {c : Code} (S : SB X 0 p s m args meth c cX7_next 1 none RX7) {M : Mm} {N : Mm} {v0 : Nat} (h_v0 : OK 0 v0 7) (he : f_X7_next_J23 M v0 = some N) : Z X 0 p l e rm_X7_next s m args below meth c 0 0 (MQ below (QV X 0 N s.heap.size) args s 0 0 (AA X 0 s.heap.size)) 1 M 23 [(0, .ref (X.2.2 v0))] [] := by
  unfold f_X7_next_J23 at he
  refine z_aload_n S dX7_next_23 rfl 0 rfl ?_
  refine z_getI S fo_RX7_79 rfl h_v0 dX7_next_24 ?_
  refine z_if_lt (tgt := 93) S he dX7_next_27 (by decide) (fun he => ?_) (fun he => ?_)
  · exact z_vret S (Option.some.inj he) dX7_next_93
  · refine z_aload_n S dX7_next_30 rfl 0 rfl ?_
    refine z_getI S fo_RX7_79 rfl h_v0 dX7_next_31 ?_
    refine z_aload_n S dX7_next_34 rfl 0 rfl ?_
    refine z_getF (j := (v0 + 1)) S fo_RX7_11 1 rfl rfl h_v0 dX7_next_35 ?_
    refine z_alen (v := 401) S (okf7_1 h_v0).1 (cel_w (okf7_1 h_v0).1.2.2) rfl (okf7_1 h_v0).2 rfl dX7_next_38 ?_
    refine z_icmp_ge (tgt := 93) S he dX7_next_39 (by decide) (fun he => ?_) (fun he => ?_)
    · exact z_vret S (Option.some.inj he) dX7_next_93
    · refine z_aload_n S dX7_next_42 rfl 0 rfl ?_
      refine z_getF (j := (v0 + 1)) S fo_RX7_11 1 rfl rfl h_v0 dX7_next_43 ?_
      refine z_aload_n S dX7_next_46 rfl 0 rfl ?_
      refine z_getI S fo_RX7_79 rfl h_v0 dX7_next_47 ?_
      refine z_aldN S (okf7_1 h_v0).1 (okf7_1 h_v0).2 he dX7_next_50 (fun he => ?_)
      refine z_ifnull (tgt := 93) S he dX7_next_51 (by decide) (fun he => ?_) (fun he => ?_)
      · exact z_vret S (Option.some.inj he) dX7_next_93
      · refine z_aload_n S dX7_next_54 rfl 0 rfl ?_
        refine z_aload_n S dX7_next_55 rfl 0 rfl ?_
        refine z_getF (j := (v0 + 1)) S fo_RX7_11 1 rfl rfl h_v0 dX7_next_56 ?_
        refine z_aload_n S dX7_next_59 rfl 0 rfl ?_
        refine z_getI S fo_RX7_79 rfl h_v0 dX7_next_60 ?_
        refine z_aldN S (okf7_1 h_v0).1 (okf7_1 h_v0).2 he dX7_next_63 (fun he => ?_)
        refine z_putN S fo_RX7_28p rfl h_v0  he dX7_next_64 (fun M1 he => ?_)
        refine z_aload_n S dX7_next_67 rfl 0 rfl ?_
        refine z_aload_n S dX7_next_68 rfl 0 rfl ?_
        refine z_getF (j := (v0 + 2)) S fo_RX7_17 2 rfl rfl h_v0 dX7_next_69 ?_
        refine z_aload_n S dX7_next_72 rfl 0 rfl ?_
        refine z_getI S fo_RX7_79 rfl h_v0 dX7_next_73 ?_
        refine z_iald S (okf7_2 h_v0).1 (okf7_2 h_v0).2 he dX7_next_76 (fun he => ?_)
        refine z_putIb S fo_RX7_113p rfl h_v0 rfl rfl he dX7_next_77 (fun M2 he => ?_)
        refine z_aload_n S dX7_next_80 rfl 0 rfl ?_
        refine z_aload_n S dX7_next_81 rfl 0 rfl ?_
        refine z_getF (j := (v0 + 3)) S fo_RX7_21 3 rfl rfl h_v0 dX7_next_82 ?_
        refine z_aload_n S dX7_next_85 rfl 0 rfl ?_
        refine z_getI S fo_RX7_79 rfl h_v0 dX7_next_86 ?_
        refine z_iald S (okf7_3 h_v0).1 (okf7_3 h_v0).2 he dX7_next_89 (fun he => ?_)
        refine z_putIb S fo_RX7_116p rfl h_v0 rfl rfl he dX7_next_90 (fun M3 he => ?_)
        exact z_vret S (Option.some.inj he) dX7_next_93
set_option maxRecDepth 100000 in
set_option maxHeartbeats 4000000 in
theorem K_X7_next {X : Cx} {l : Launch} {M : Mm} {a0 : Nat} {N : Mm} (h_a0 : OK 0 a0 7) (he : f_X7_next M a0 = some N) : KV X 0 l yX7_next (wz yX7_next cX7_next 1 none) rm_X7_next [.ref (X.2.2 a0)] M N := by
  intro sz
  refine K_of (Qc := (fun sz => QV X 0 N sz)) (own := RX7) (lv0 := [(0, .ref (X.2.2 a0))]) (by decide +kernel) rfl (Nat.le_of_ble_eq_true rfl) rfl (fun p e s m args below meth c S => ?_) sz
  · unfold f_X7_next at he
    refine z_aload_n S dX7_next_0 rfl 0 rfl ?_
    refine z_getI S fo_RX7_79 rfl h_a0 dX7_next_1 ?_
    refine z_aload_n S dX7_next_4 rfl 0 rfl ?_
    refine z_getI S fo_RX7_35 rfl h_a0 dX7_next_5 ?_
    refine z_iconst (v := 1) S dX7_next_8 (by decide) ?_
    refine z_isub S dX7_next_9 ?_
    refine z_icmp_ge (tgt := 23) S he dX7_next_10 (by decide) (fun he => ?_) (fun he => ?_)
    · exact p_X7_next_J23 S h_a0 he
    · refine z_aload_n S dX7_next_13 rfl 0 rfl ?_
      refine z_dup S rfl dX7_next_14 ?_
      refine z_getI S fo_RX7_79 rfl h_a0 dX7_next_15 ?_
      refine z_iconst (v := 1) S dX7_next_18 (by decide) ?_
      refine z_iadd S dX7_next_19 ?_
      refine z_putIb S fo_RX7_79p rfl h_a0 rfl rfl he dX7_next_20 (fun M4 he => ?_)
      exact p_X7_next_J23 S h_a0 he
set_option maxRecDepth 100000 in
set_option maxHeartbeats 4000000 in
theorem p_X7_skip_J13 {X : Cx} {p : Program} {l : Launch} {e : Env} {s : State} {m : MethodId} {args : Array Value} {below : List Frame} {meth : Method} {c : Code} (S : SB X 0 p s m args meth c cX7_skip 3 (some .boolean) RX7) {M : Mm} {N : Mm} {r : Bool} {v0 : Nat} {t0 : Int32} (h_v0 : OK 0 v0 7) (he : f_X7_skip_J13 M v0 t0 = some (r, N)) : Z X 0 p l e rm_X7_skip s m args below meth c 0 0 (MQ below (QI X 0 (bI r) N s.heap.size) args s 0 0 (AA X 0 s.heap.size)) 3 M 13 [(0, .ref (X.2.2 v0))] [.int t0] := by
  unfold f_X7_skip_J13 at he
  refine z_istore_n (lv' := [(0, .ref (X.2.2 v0)), (2, .int t0)]) S [1, 0] dX7_skip_13 rfl (by decide) rfl ?_
  refine z_iload_n S dX7_skip_14 rfl 1 rfl ?_
  refine z_if_eq (tgt := 22) S he dX7_skip_15 (by decide) (fun he => ?_) (fun he => ?_)
  · refine z_iload_n S dX7_skip_22 rfl 1 rfl ?_
    rcases z_sw he with ⟨hk9, he⟩ | ⟨hk9, he⟩
    · exact z_zretv (b := false) S hk9 (Prod.mk.inj (Option.some.inj he)) dX7_skip_23
    · obtain ⟨hk8, he⟩ := grd he
      exact z_zretv (b := true) S hk8 (Prod.mk.inj (Option.some.inj he)) dX7_skip_23
  · refine z_aload_n S dX7_skip_18 rfl 0 rfl ?_
    obtain ⟨M2, h9, he⟩ := bnd he
    refine z_cVV (As := []) S cv_RX7_82 (K_X7_next h_v0 h9) h_v0 (by decide) (q := (RX7, TX7, 9)) rfl rfl ⟨rfl, rfl⟩ ⟨Nat.le_of_ble_eq_true rfl, Nat.le_of_ble_eq_true rfl⟩ ⟨Nat.le_refl _, Nat.le_refl _⟩ rfl rfl (Nat.le_of_ble_eq_true rfl) dX7_skip_19 ?_
    refine z_iload_n S dX7_skip_22 rfl 1 rfl ?_
    rcases z_sw he with ⟨hk9, he⟩ | ⟨hk9, he⟩
    · exact z_zretv (b := false) S hk9 (Prod.mk.inj (Option.some.inj he)) dX7_skip_23
    · obtain ⟨hk8, he⟩ := grd he
      exact z_zretv (b := true) S hk8 (Prod.mk.inj (Option.some.inj he)) dX7_skip_23
set_option maxRecDepth 100000 in
set_option maxHeartbeats 4000000 in
theorem K_X7_skip {X : Cx} {l : Launch} {M : Mm} {a0 : Nat} {a1 : Nat} {r : Bool} {N : Mm} (h_a0 : OK 0 a0 7) (h_a1 : isW a1 = true) (he : f_X7_skip M a0 a1 = some (r, N)) : KI X 0 l yX7_skip (wz yX7_skip cX7_skip 3 (some .boolean)) rm_X7_skip [.ref (X.2.2 a0), .ref (X.2.2 a1)] M (bI r) N := by
  intro sz
  refine K_of (Qc := (fun sz => QI X 0 (bI r) N sz)) (own := RX7) (lv0 := [(0, .ref (X.2.2 a0)), (1, .ref (X.2.2 a1))]) (by decide +kernel) rfl (Nat.le_of_ble_eq_true rfl) rfl (fun p e s m args below meth c S => ?_) sz
  · unfold f_X7_skip at he
    refine z_aload_n S dX7_skip_0 rfl 0 rfl ?_
    refine z_getWd S fo_RX7_28 rfl h_a0 he dX7_skip_1 (fun q1 hq1 he => ?_)
    refine z_aload_n S dX7_skip_4 rfl 1 rfl ?_
    refine z_acmp_ne (tgt := 12) S hq1 h_a1 he dX7_skip_5 (by decide) (fun he => ?_) (fun he => ?_)
    · refine z_iconst (v := 0) S dX7_skip_12 (by decide) ?_
      refine z_lv (ks := [0]) rfl ?_
      exact p_X7_skip_J13 S h_a0 he
    · refine z_iconst (v := 1) S dX7_skip_8 (by decide) ?_
      refine z_goto (tgt := 13) S dX7_skip_9 (by decide) ?_
      refine z_lv (ks := [0]) rfl ?_
      exact p_X7_skip_J13 S h_a0 he
set_option maxRecDepth 100000 in
set_option maxHeartbeats 4000000 in
theorem K_X7_refuse {X : Cx} {l : Launch} {M : Mm} {a0 : Nat} {r : Bool} {N : Mm} (h_a0 : OK 0 a0 7) (he : f_X7_refuse M a0 = (r, N)) : KI X 0 l yX7_refuse (wz yX7_refuse cX7_refuse 1 (some .boolean)) rm_X7_refuse [.ref (X.2.2 a0)] M (bI r) N := by
  intro sz
  refine K_of (Qc := (fun sz => QI X 0 (bI r) N sz)) (own := RX7) (lv0 := [(0, .ref (X.2.2 a0))]) (by decide +kernel) rfl (Nat.le_of_ble_eq_true rfl) rfl (fun p e s m args below meth c S => ?_) sz
  · unfold f_X7_refuse at he
    refine z_aload_n S dX7_refuse_0 rfl 0 rfl ?_
    refine z_aload_n S dX7_refuse_1 rfl 0 rfl ?_
    refine z_getI S fo_RX7_113 rfl h_a0 dX7_refuse_2 ?_
    refine z_putI S fo_RX7_31p rfl h_a0 rfl rfl dX7_refuse_5 ?_
    refine z_iconst (v := 0) S dX7_refuse_8 (by decide) ?_
    exact z_zret0 S (Prod.mk.inj (he)) dX7_refuse_9
set_option maxRecDepth 100000 in
set_option maxHeartbeats 4000000 in
theorem K_X7_numberWithin {X : Cx} {l : Launch} {M : Mm} {a0 : Nat} {a1 : Int32} {a2 : Int32} {r : Int32} (h_a0 : OK 0 a0 7) (he : f_X7_numberWithin M a0 a1 a2 = some r) : KI X 0 l yX7_numberWithin (wz yX7_numberWithin cX7_numberWithin 3 (some .int)) rm_X7_numberWithin [.ref (X.2.2 a0), .int a1, .int a2] M r M := by
  intro sz
  refine K_of (Qc := (fun sz => QI X 0 r M sz)) (own := RX7) (lv0 := [(0, .ref (X.2.2 a0)), (1, .int a1), (2, .int a2)]) (by decide +kernel) rfl (Nat.le_of_ble_eq_true rfl) rfl (fun p e s m args below meth c S => ?_) sz
  · unfold f_X7_numberWithin at he
    refine z_aload_n S dX7_numberWithin_0 rfl 0 rfl ?_
    refine z_getWd S fo_RX7_28 rfl h_a0 he dX7_numberWithin_1 (fun q1 hq1 he => ?_)
    refine z_getW (i := 28) (j := 328) S (by decide) rfl rfl gw_RX7_67 dX7_numberWithin_4 ?_
    refine z_acmp_ne (tgt := 33) S hq1 (isW_add (i := 28) (by decide)) he dX7_numberWithin_7 (by decide) (fun he => ?_) (fun he => ?_)
    · refine z_iconst (v := (-1)) S dX7_numberWithin_33 (by decide) ?_
      exact z_iret S (⟨Option.some.inj he, rfl⟩) dX7_numberWithin_34
    · refine z_aload_n S dX7_numberWithin_10 rfl 0 rfl ?_
      refine z_getI S fo_RX7_116 rfl h_a0 dX7_numberWithin_11 ?_
      refine z_iload_n S dX7_numberWithin_14 rfl 1 rfl ?_
      refine z_icmp_lt (tgt := 33) S he dX7_numberWithin_15 (by decide) (fun he => ?_) (fun he => ?_)
      · refine z_iconst (v := (-1)) S dX7_numberWithin_33 (by decide) ?_
        exact z_iret S (⟨Option.some.inj he, rfl⟩) dX7_numberWithin_34
      · refine z_aload_n S dX7_numberWithin_18 rfl 0 rfl ?_
        refine z_getI S fo_RX7_116 rfl h_a0 dX7_numberWithin_19 ?_
        refine z_iload_n S dX7_numberWithin_22 rfl 2 rfl ?_
        refine z_icmp_gt (tgt := 33) S he dX7_numberWithin_23 (by decide) (fun he => ?_) (fun he => ?_)
        · refine z_iconst (v := (-1)) S dX7_numberWithin_33 (by decide) ?_
          exact z_iret S (⟨Option.some.inj he, rfl⟩) dX7_numberWithin_34
        · refine z_aload_n S dX7_numberWithin_26 rfl 0 rfl ?_
          refine z_getI S fo_RX7_116 rfl h_a0 dX7_numberWithin_27 ?_
          refine z_goto (tgt := 34) S dX7_numberWithin_30 (by decide) ?_
          exact z_iret S (⟨Option.some.inj he, rfl⟩) dX7_numberWithin_34
set_option maxRecDepth 100000 in
set_option maxHeartbeats 4000000 in
theorem p_X4_thingAt_L2 {X : Cx} {p : Program} {l : Launch} {e : Env} {s : State} {m : MethodId} {args : Array Value} {below : List Frame} {meth : Method} {c : Code} (S : SB X 0 p s m args meth c cX4_thingAt 3 (some .int) RX4) {M : Mm} {r : Int32} {v0 : Nat} {v1 : Int32} {v2 : Int32} {x : Int32 ⊕ ((Int32) ⊕ Unit)} (h_v0 : OK 0 v0 4) (he : f_X4_thingAt_L2 M v0 v1 v2 = some x) (hc : ∀ b, x = .inl b → Z X 0 p l e rm_X4_thingAt s m args below meth c 0 0 (MQ below (QI X 0 r M s.heap.size) args s 0 0 (AA X 0 s.heap.size)) 3 M 2 [(0, .ref (X.2.2 v0)), (1, .int v1), (2, .int b)] []) (hx : ∀ b, x = .inr (.inr b) → Z X 0 p l e rm_X4_thingAt s m args below meth c 0 0 (MQ below (QI X 0 r M s.heap.size) args s 0 0 (AA X 0 s.heap.size)) 3 M 34 [] []) (hr : ∀ v, x = .inr (.inl v) → v = r) : Z X 0 p l e rm_X4_thingAt s m args below meth c 0 0 (MQ below (QI X 0 r M s.heap.size) args s 0 0 (AA X 0 s.heap.size)) 3 M 2 [(0, .ref (X.2.2 v0)), (1, .int v1), (2, .int v2)] [] := by
  unfold f_X4_thingAt_L2 at he
  refine z_iload_n S dX4_thingAt_2 rfl 2 rfl ?_
  refine z_aload_n S dX4_thingAt_3 rfl 0 rfl ?_
  refine z_getI S fo_RX4_34 rfl h_v0 dX4_thingAt_4 ?_
  refine z_icmp_ge (tgt := 34) S he dX4_thingAt_7 (by decide) (fun he => ?_) (fun he => ?_)
  · refine z_lv (ks := []) rfl ?_
    exact hx _ (Option.some.inj he).symm
  · refine z_aload_n S dX4_thingAt_10 rfl 0 rfl ?_
    refine z_getF (j := (v0 + 1)) S fo_RX4_9 1 rfl rfl h_v0 dX4_thingAt_11 ?_
    refine z_iload_n S dX4_thingAt_14 rfl 2 rfl ?_
    refine z_iconst (v := 5) S dX4_thingAt_15 (by decide) ?_
    refine z_imul S dX4_thingAt_16 ?_
    refine z_iconst (v := 0) S dX4_thingAt_17 (by decide) ?_
    refine z_iadd S dX4_thingAt_18 ?_
    refine z_cNI (As := [.ref (X.2.2 (v0 + 1)), .int ((v2 * 5) + 0)]) S cn_RX4_49 (Kt_X9_at (okf4_1 h_v0).1 rfl) ⟨rfl, rfl⟩ ⟨Nat.le_of_ble_eq_true rfl, Nat.le_of_ble_eq_true rfl⟩ ⟨Nat.le_refl _, Nat.le_refl _⟩ rfl rfl (Nat.le_of_ble_eq_true rfl) dX4_thingAt_19 ?_
    refine z_iload_n S dX4_thingAt_22 rfl 1 rfl ?_
    refine z_icmp_ne (tgt := 28) S he dX4_thingAt_23 (by decide) (fun he => ?_) (fun he => ?_)
    · refine z_iinc (v := (v2 + 1)) (lv' := [(0, .ref (X.2.2 v0)), (1, .int v1), (2, .int (v2 + 1))]) S [1, 2, 0] 2 dX4_thingAt_28 rfl (by rfl) (by decide) rfl ?_
      refine z_goto (tgt := 2) S dX4_thingAt_31 (by decide) ?_
      refine z_lv (ks := [0, 1, 2]) rfl ?_
      exact hc _ (Option.some.inj he).symm
    · refine z_iload_n S dX4_thingAt_26 rfl 2 rfl ?_
      exact z_iret S (⟨hr _ (Option.some.inj he).symm, rfl⟩) dX4_thingAt_27
set_option maxRecDepth 100000 in
set_option maxHeartbeats 4000000 in
theorem K_X4_thingAt {X : Cx} {l : Launch} {M : Mm} {a0 : Nat} {a1 : Int32} {r : Int32} (h_a0 : OK 0 a0 4) (he : f_X4_thingAt M a0 a1 = some r) : KI X 0 l yX4_thingAt (wz yX4_thingAt cX4_thingAt 3 (some .int)) rm_X4_thingAt [.ref (X.2.2 a0), .int a1] M r M := by
  intro sz
  refine K_of (Qc := (fun sz => QI X 0 r M sz)) (own := RX4) (lv0 := [(0, .ref (X.2.2 a0)), (1, .int a1)]) (by decide +kernel) rfl (Nat.le_of_ble_eq_true rfl) rfl (fun p e s m args below meth c S => ?_) sz
  · unfold f_X4_thingAt at he
    refine z_iconst (v := 0) S dX4_thingAt_0 (by decide) ?_
    refine z_istore_n (lv' := [(0, .ref (X.2.2 a0)), (1, .int a1), (2, .int 0)]) S [1, 2, 0] dX4_thingAt_1 rfl (by decide) rfl ?_
    obtain ⟨r9, hl, hr1, hr2⟩ := bndS he
    have hX : ∀ e_1, r9 = .inr e_1 → Z X 0 p l e rm_X4_thingAt s m args below meth c 0 0 (MQ below (QI X 0 r M s.heap.size) args s 0 0 (AA X 0 s.heap.size)) 3 M 34 [] [] := by
      intro e_1 hre
      have he := hr2 e_1 hre
      refine z_iconst (v := (-1)) S dX4_thingAt_34 (by decide) ?_
      exact z_iret S (⟨Option.some.inj he, rfl⟩) dX4_thingAt_35
    exact loopZ (Zh := (fun a_1 => Z X 0 p l e rm_X4_thingAt s m args below meth c 0 0 (MQ below (QI X 0 r M s.heap.size) args s 0 0 (AA X 0 s.heap.size)) 3 M 2 [(0, .ref (X.2.2 a0)), (1, .int a1), (2, .int a_1)] [])) (fun a_1 x hb hc hr9 => p_X4_thingAt_L2 S h_a0 hb hc (fun b hxe => hX b (hr9 _ hxe).symm) (fun v hxv => Option.some.inj (hr1 v (hr9 _ hxv).symm))) FU _ hl
set_option maxRecDepth 100000 in
set_option maxHeartbeats 4000000 in
theorem p_X1_readCell_J55 {X : Cx} {p : Program} {l : Launch} {e : Env} {s : State} {m : MethodId} {args : Array Value} {below : List Frame} {meth : Method} {c : Code} (S : SB X 0 p s m args meth c cX1_readCell 2 (some .boolean) RX1) {M : Mm} {N : Mm} {r : Bool}  (he : f_X1_readCell_J55 M  = some (r, N)) : Z X 0 p l e rm_X1_readCell s m args below meth c 0 0 (MQ below (QI X 0 (bI r) N s.heap.size) args s 0 0 (AA X 0 s.heap.size)) 2 M 55 [(0, .ref (X.2.2 97))] [] := by
  unfold f_X1_readCell_J55 at he
  refine z_aload_n S dX1_readCell_55 rfl 0 rfl ?_
  refine z_getF (j := 98) S fo_RX1_12 1 rfl rfl ok_97 dX1_readCell_56 ?_
  obtain ⟨⟨r5, M6⟩, h9, he⟩ := bnd he
  dsimp only at he
  refine z_cVI (As := []) S cv_RX1_42 (K_X7_refuse ok_98 (Option.some.inj h9)) ok_98 (by decide) (q := (RX7, TX7, 9)) rfl rfl ⟨rfl, rfl⟩ ⟨Nat.le_of_ble_eq_true rfl, Nat.le_of_ble_eq_true rfl⟩ ⟨Nat.le_refl _, Nat.le_refl _⟩ rfl rfl (Nat.le_of_ble_eq_true rfl) dX1_readCell_59 ?_
  exact z_zret S (Prod.mk.inj (Option.some.inj he)) dX1_readCell_62
set_option maxRecDepth 100000 in
set_option maxHeartbeats 4000000 in
theorem K_X1_readCell {X : Cx} {l : Launch} {M : Mm} {a1 : Nat} {r : Bool} {N : Mm} (h_a1 : OK 0 a1 4) (he : f_X1_readCell M a1 = some (r, N)) : KI X 0 l yX1_readCell (wz yX1_readCell cX1_readCell 2 (some .boolean)) rm_X1_readCell [.ref (X.2.2 97), .ref (X.2.2 a1)] M (bI r) N := by
  intro sz
  refine K_of (Qc := (fun sz => QI X 0 (bI r) N sz)) (own := RX1) (lv0 := [(0, .ref (X.2.2 97)), (1, .ref (X.2.2 a1))]) (by decide +kernel) rfl (Nat.le_of_ble_eq_true rfl) rfl (fun p e s m args below meth c S => ?_) sz
  · unfold f_X1_readCell at he
    refine z_aload_n S dX1_readCell_0 rfl 0 rfl ?_
    refine z_getF (j := 98) S fo_RX1_12 1 rfl rfl ok_97 dX1_readCell_1 ?_
    refine z_getW (i := 1) (j := 301) S (by decide) rfl rfl gw_RX1_102 dX1_readCell_4 ?_
    obtain ⟨⟨r1, M2⟩, h9, he⟩ := bnd he
    dsimp only at he
    refine z_cVI (As := [.ref (X.2.2 301)]) S cv_RX1_38 (K_X7_skip ok_98 (isW_add (i := 1) (by decide)) h9) ok_98 (by decide) (q := (RX7, TX7, 9)) rfl rfl ⟨rfl, rfl⟩ ⟨Nat.le_of_ble_eq_true rfl, Nat.le_of_ble_eq_true rfl⟩ ⟨Nat.le_refl _, Nat.le_refl _⟩ rfl rfl (Nat.le_of_ble_eq_true rfl) dX1_readCell_7 ?_
    refine z_ifb_ne (tgt := 21) S he dX1_readCell_10 (by decide) (fun he => ?_) (fun he => ?_)
    · refine z_aload_n S dX1_readCell_21 rfl 0 rfl ?_
      refine z_aload_n S dX1_readCell_22 rfl 0 rfl ?_
      refine z_getF (j := 98) S fo_RX1_12 1 rfl rfl ok_97 dX1_readCell_23 ?_
      refine z_iconst (v := 0) S dX1_readCell_26 (by decide) ?_
      refine z_bipush (v := 19) S dX1_readCell_27 (by decide) ?_
      obtain ⟨r3, h9, he⟩ := bnd he
      refine z_cVI (As := [.int 0, .int 19]) S cv_RX1_105 (K_X7_numberWithin ok_98 h9) ok_98 (by decide) (q := (RX7, TX7, 9)) rfl rfl ⟨rfl, rfl⟩ ⟨Nat.le_of_ble_eq_true rfl, Nat.le_of_ble_eq_true rfl⟩ ⟨Nat.le_refl _, Nat.le_refl _⟩ rfl rfl (Nat.le_of_ble_eq_true rfl) dX1_readCell_29 ?_
      refine z_putIb S fo_RX1_85p rfl ok_97 rfl rfl he dX1_readCell_32 (fun M4 he => ?_)
      refine z_aload_n S dX1_readCell_35 rfl 0 rfl ?_
      refine z_getI S fo_RX1_85 rfl ok_97 dX1_readCell_36 ?_
      refine z_iconst (v := (-1)) S dX1_readCell_39 (by decide) ?_
      refine z_icmp_eq (tgt := 55) S he dX1_readCell_40 (by decide) (fun he => ?_) (fun he => ?_)
      · refine z_lv (ks := [0]) rfl ?_
        exact p_X1_readCell_J55 S  he
      · refine z_aload_n S dX1_readCell_43 rfl 1 rfl ?_
        refine z_aload_n S dX1_readCell_44 rfl 0 rfl ?_
        refine z_getI S fo_RX1_85 rfl ok_97 dX1_readCell_45 ?_
        obtain ⟨r7, h9, he⟩ := bnd he
        refine z_cVI (As := [.int (gI M4 97 1)]) S cv_RX1_109 (K_X4_thingAt h_a1 h9) h_a1 (by decide) (q := (RX4, TX4, 10)) rfl rfl ⟨rfl, rfl⟩ ⟨Nat.le_of_ble_eq_true rfl, Nat.le_of_ble_eq_true rfl⟩ ⟨Nat.le_refl _, Nat.le_refl _⟩ rfl rfl (Nat.le_of_ble_eq_true rfl) dX1_readCell_48 ?_
        refine z_iconst (v := (-1)) S dX1_readCell_51 (by decide) ?_
        refine z_icmp_eq (tgt := 63) S he dX1_readCell_52 (by decide) (fun he => ?_) (fun he => ?_)
        · refine z_aload_n S dX1_readCell_63 rfl 0 rfl ?_
          refine z_getF (j := 98) S fo_RX1_12 1 rfl rfl ok_97 dX1_readCell_64 ?_
          obtain ⟨M8, h9, he⟩ := bnd he
          refine z_cVV (As := []) S cv_RX1_79 (K_X7_next ok_98 h9) ok_98 (by decide) (q := (RX7, TX7, 9)) rfl rfl ⟨rfl, rfl⟩ ⟨Nat.le_of_ble_eq_true rfl, Nat.le_of_ble_eq_true rfl⟩ ⟨Nat.le_refl _, Nat.le_refl _⟩ rfl rfl (Nat.le_of_ble_eq_true rfl) dX1_readCell_67 ?_
          refine z_iconst (v := 1) S dX1_readCell_70 (by decide) ?_
          exact z_zret1 S (Prod.mk.inj (Option.some.inj he)) dX1_readCell_71
        · refine z_lv (ks := [0]) rfl ?_
          exact p_X1_readCell_J55 S  he
    · refine z_aload_n S dX1_readCell_13 rfl 0 rfl ?_
      refine z_getF (j := 98) S fo_RX1_12 1 rfl rfl ok_97 dX1_readCell_14 ?_
      obtain ⟨⟨r9, M10⟩, h9, he⟩ := bnd he
      dsimp only at he
      refine z_cVI (As := []) S cv_RX1_42 (K_X7_refuse ok_98 (Option.some.inj h9)) ok_98 (by decide) (q := (RX7, TX7, 9)) rfl rfl ⟨rfl, rfl⟩ ⟨Nat.le_of_ble_eq_true rfl, Nat.le_of_ble_eq_true rfl⟩ ⟨Nat.le_refl _, Nat.le_refl _⟩ rfl rfl (Nat.le_of_ble_eq_true rfl) dX1_readCell_17 ?_
      exact z_zret S (Prod.mk.inj (Option.some.inj he)) dX1_readCell_20
set_option maxRecDepth 100000 in
set_option maxHeartbeats 4000000 in
theorem K_X1_readNamed {X : Cx} {l : Launch} {M : Mm} {a1 : Nat} {a2 : Int32} {a3 : Int32} {r : Bool} {N : Mm} (h_a1 : isW a1 = true) (he : f_X1_readNamed M a1 a2 a3 = some (r, N)) : KI X 0 l yX1_readNamed (wz yX1_readNamed cX1_readNamed 4 (some .boolean)) rm_X1_readNamed [.ref (X.2.2 97), .ref (X.2.2 a1), .int a2, .int a3] M (bI r) N := by
  intro sz
  refine K_of (Qc := (fun sz => QI X 0 (bI r) N sz)) (own := RX1) (lv0 := [(0, .ref (X.2.2 97)), (1, .ref (X.2.2 a1)), (2, .int a2), (3, .int a3)]) (by decide +kernel) rfl (Nat.le_of_ble_eq_true rfl) rfl (fun p e s m args below meth c S => ?_) sz
  · unfold f_X1_readNamed at he
    refine z_aload_n S dX1_readNamed_0 rfl 0 rfl ?_
    refine z_getF (j := 98) S fo_RX1_12 1 rfl rfl ok_97 dX1_readNamed_1 ?_
    refine z_aload_n S dX1_readNamed_4 rfl 1 rfl ?_
    obtain ⟨⟨r1, M2⟩, h9, he⟩ := bnd he
    dsimp only at he
    refine z_cVI (As := [.ref (X.2.2 a1)]) S cv_RX1_38 (K_X7_skip ok_98 h_a1 h9) ok_98 (by decide) (q := (RX7, TX7, 9)) rfl rfl ⟨rfl, rfl⟩ ⟨Nat.le_of_ble_eq_true rfl, Nat.le_of_ble_eq_true rfl⟩ ⟨Nat.le_refl _, Nat.le_refl _⟩ rfl rfl (Nat.le_of_ble_eq_true rfl) dX1_readNamed_5 ?_
    refine z_ifb_ne (tgt := 19) S he dX1_readNamed_8 (by decide) (fun he => ?_) (fun he => ?_)
    · refine z_aload_n S dX1_readNamed_19 rfl 0 rfl ?_
      refine z_aload_n S dX1_readNamed_20 rfl 0 rfl ?_
      refine z_getF (j := 98) S fo_RX1_12 1 rfl rfl ok_97 dX1_readNamed_21 ?_
      refine z_iload_n S dX1_readNamed_24 rfl 2 rfl ?_
      refine z_iload_n S dX1_readNamed_25 rfl 3 rfl ?_
      obtain ⟨r3, h9, he⟩ := bnd he
      refine z_cVI (As := [.int a2, .int a3]) S cv_RX1_105 (K_X7_numberWithin ok_98 h9) ok_98 (by decide) (q := (RX7, TX7, 9)) rfl rfl ⟨rfl, rfl⟩ ⟨Nat.le_of_ble_eq_true rfl, Nat.le_of_ble_eq_true rfl⟩ ⟨Nat.le_refl _, Nat.le_refl _⟩ rfl rfl (Nat.le_of_ble_eq_true rfl) dX1_readNamed_26 ?_
      refine z_putIb S fo_RX1_85p rfl ok_97 rfl rfl he dX1_readNamed_29 (fun M4 he => ?_)
      refine z_aload_n S dX1_readNamed_32 rfl 0 rfl ?_
      refine z_getI S fo_RX1_85 rfl ok_97 dX1_readNamed_33 ?_
      refine z_iconst (v := (-1)) S dX1_readNamed_36 (by decide) ?_
      refine z_icmp_ne (tgt := 48) S he dX1_readNamed_37 (by decide) (fun he => ?_) (fun he => ?_)
      · refine z_aload_n S dX1_readNamed_48 rfl 0 rfl ?_
        refine z_getF (j := 98) S fo_RX1_12 1 rfl rfl ok_97 dX1_readNamed_49 ?_
        obtain ⟨M5, h9, he⟩ := bnd he
        refine z_cVV (As := []) S cv_RX1_79 (K_X7_next ok_98 h9) ok_98 (by decide) (q := (RX7, TX7, 9)) rfl rfl ⟨rfl, rfl⟩ ⟨Nat.le_of_ble_eq_true rfl, Nat.le_of_ble_eq_true rfl⟩ ⟨Nat.le_refl _, Nat.le_refl _⟩ rfl rfl (Nat.le_of_ble_eq_true rfl) dX1_readNamed_52 ?_
        refine z_iconst (v := 1) S dX1_readNamed_55 (by decide) ?_
        exact z_zret1 S (Prod.mk.inj (Option.some.inj he)) dX1_readNamed_56
      · refine z_aload_n S dX1_readNamed_40 rfl 0 rfl ?_
        refine z_getF (j := 98) S fo_RX1_12 1 rfl rfl ok_97 dX1_readNamed_41 ?_
        obtain ⟨⟨r6, M7⟩, h9, he⟩ := bnd he
        dsimp only at he
        refine z_cVI (As := []) S cv_RX1_42 (K_X7_refuse ok_98 (Option.some.inj h9)) ok_98 (by decide) (q := (RX7, TX7, 9)) rfl rfl ⟨rfl, rfl⟩ ⟨Nat.le_of_ble_eq_true rfl, Nat.le_of_ble_eq_true rfl⟩ ⟨Nat.le_refl _, Nat.le_refl _⟩ rfl rfl (Nat.le_of_ble_eq_true rfl) dX1_readNamed_44 ?_
        exact z_zret S (Prod.mk.inj (Option.some.inj he)) dX1_readNamed_47
    · refine z_aload_n S dX1_readNamed_11 rfl 0 rfl ?_
      refine z_getF (j := 98) S fo_RX1_12 1 rfl rfl ok_97 dX1_readNamed_12 ?_
      obtain ⟨⟨r8, M9⟩, h9, he⟩ := bnd he
      dsimp only at he
      refine z_cVI (As := []) S cv_RX1_42 (K_X7_refuse ok_98 (Option.some.inj h9)) ok_98 (by decide) (q := (RX7, TX7, 9)) rfl rfl ⟨rfl, rfl⟩ ⟨Nat.le_of_ble_eq_true rfl, Nat.le_of_ble_eq_true rfl⟩ ⟨Nat.le_refl _, Nat.le_refl _⟩ rfl rfl (Nat.le_of_ble_eq_true rfl) dX1_readNamed_15 ?_
      exact z_zret S (Prod.mk.inj (Option.some.inj he)) dX1_readNamed_18
set_option maxRecDepth 100000 in
set_option maxHeartbeats 4000000 in
theorem K_X4_setThing {X : Cx} {l : Launch} {M : Mm} {a0 : Nat} {a1 : Int32} {a2 : Int32} {a3 : Int32} {N : Mm} (h_a0 : OK 0 a0 4) (he : f_X4_setThing M a0 a1 a2 a3 = N) : KV X 0 l yX4_setThing (wz yX4_setThing cX4_setThing 4 none) rm_X4_setThing [.ref (X.2.2 a0), .int a1, .int a2, .int a3] M N := by
  intro sz
  refine K_of (Qc := (fun sz => QV X 0 N sz)) (own := RX4) (lv0 := [(0, .ref (X.2.2 a0)), (1, .int a1), (2, .int a2), (3, .int a3)]) (by decide +kernel) rfl (Nat.le_of_ble_eq_true rfl) rfl (fun p e s m args below meth c S => ?_) sz
  · unfold f_X4_setThing at he
    refine z_aload_n S dX4_setThing_0 rfl 0 rfl ?_
    refine z_getF (j := (a0 + 1)) S fo_RX4_9 1 rfl rfl h_a0 dX4_setThing_1 ?_
    refine z_iload_n S dX4_setThing_4 rfl 1 rfl ?_
    refine z_iconst (v := 5) S dX4_setThing_5 (by decide) ?_
    refine z_imul S dX4_setThing_6 ?_
    refine z_iload_n S dX4_setThing_7 rfl 2 rfl ?_
    refine z_iadd S dX4_setThing_8 ?_
    refine z_iload_n S dX4_setThing_9 rfl 3 rfl ?_
    refine z_cNV (As := [.ref (X.2.2 (a0 + 1)), .int ((a1 * 5) + a2), .int a3]) S cn_RX4_53 (Kt_X9_put (okf4_1 h_a0).1 rfl) ⟨rfl, rfl⟩ ⟨Nat.le_of_ble_eq_true rfl, Nat.le_of_ble_eq_true rfl⟩ ⟨Nat.le_refl _, Nat.le_refl _⟩ rfl rfl (Nat.le_of_ble_eq_true rfl) dX4_setThing_10 ?_
    exact z_vret S (he) dX4_setThing_13
set_option maxRecDepth 100000 in
set_option maxHeartbeats 4000000 in
theorem K_X1_readCellar {X : Cx} {l : Launch} {M : Mm} {a1 : Nat} {r : Bool} {N : Mm} (h_a1 : OK 0 a1 4) (he : f_X1_readCellar M a1 = some (r, N)) : KI X 0 l yX1_readCellar (wz yX1_readCellar cX1_readCellar 3 (some .boolean)) rm_X1_readCellar [.ref (X.2.2 97), .ref (X.2.2 a1)] M (bI r) N := by
  intro sz
  refine K_of (Qc := (fun sz => QI X 0 (bI r) N sz)) (own := RX1) (lv0 := [(0, .ref (X.2.2 97)), (1, .ref (X.2.2 a1))]) (by decide +kernel) rfl (Nat.le_of_ble_eq_true rfl) rfl (fun p e s m args below meth c S => ?_) sz
  · unfold f_X1_readCellar at he
    refine z_aload_n S dX1_readCellar_0 rfl 0 rfl ?_
    refine z_getW (i := 8) (j := 308) S (by decide) rfl rfl gw_RX1_73 dX1_readCellar_1 ?_
    refine z_iconst (v := 0) S dX1_readCellar_4 (by decide) ?_
    refine z_aload_n S dX1_readCellar_5 rfl 1 rfl ?_
    refine z_getI S fo_RX1_49 rfl h_a1 dX1_readCellar_6 ?_
    refine z_iconst (v := 1) S dX1_readCellar_9 (by decide) ?_
    refine z_isub S dX1_readCellar_10 ?_
    obtain ⟨⟨r1, M2⟩, h9, he⟩ := bnd he
    dsimp only at he
    refine z_cVI (As := [.ref (X.2.2 308), .int 0, .int ((gI M a1 3) - 1)]) S cv_RX1_91 (K_X1_readNamed (isW_add (i := 8) (by decide)) h9) ok_97 (by decide) (q := (RX1, TX1, 2)) rfl rfl ⟨rfl, rfl⟩ ⟨Nat.le_of_ble_eq_true rfl, Nat.le_of_ble_eq_true rfl⟩ ⟨Nat.le_refl _, Nat.le_refl _⟩ rfl rfl (Nat.le_of_ble_eq_true rfl) dX1_readCellar_11 ?_
    refine z_istore_n (lv' := [(0, .ref (X.2.2 97)), (1, .ref (X.2.2 a1)), (2, .int (bI r1))]) S [1, 2, 0] dX1_readCellar_14 rfl (by decide) rfl ?_
    refine z_iload_n S dX1_readCellar_15 rfl 2 rfl ?_
    refine z_ifb_eq (tgt := 29) S he dX1_readCellar_16 (by decide) (fun he => ?_) (fun he => ?_)
    · refine z_iload_n S dX1_readCellar_29 rfl 2 rfl ?_
      exact z_zret S (Prod.mk.inj (Option.some.inj he)) dX1_readCellar_30
    · refine z_aload_n S dX1_readCellar_19 rfl 1 rfl ?_
      refine z_aload_n S dX1_readCellar_20 rfl 0 rfl ?_
      refine z_getI S fo_RX1_85 rfl ok_97 dX1_readCellar_21 ?_
      refine z_iconst (v := 3) S dX1_readCellar_24 (by decide) ?_
      refine z_iconst (v := 0) S dX1_readCellar_25 (by decide) ?_
      obtain ⟨M3, h9, he⟩ := bnd he
      refine z_cVV (As := [.int (gI M2 97 1), .int 3, .int 0]) S cv_RX1_146 (K_X4_setThing h_a1 (Option.some.inj h9)) h_a1 (by decide) (q := (RX4, TX4, 10)) rfl rfl ⟨rfl, rfl⟩ ⟨Nat.le_of_ble_eq_true rfl, Nat.le_of_ble_eq_true rfl⟩ ⟨Nat.le_refl _, Nat.le_refl _⟩ rfl rfl (Nat.le_of_ble_eq_true rfl) dX1_readCellar_26 ?_
      refine z_iload_n S dX1_readCellar_29 rfl 2 rfl ?_
      exact z_zret S (Prod.mk.inj (Option.some.inj he)) dX1_readCellar_30
set_option maxRecDepth 100000 in
set_option maxHeartbeats 4000000 in
theorem K_X1_readColumn {X : Cx} {l : Launch} {M : Mm} {a1 : Int32} {r : Bool} {N : Mm}  (he : f_X1_readColumn M a1 = some (r, N)) : KI X 0 l yX1_readColumn (wz yX1_readColumn cX1_readColumn 2 (some .boolean)) rm_X1_readColumn [.ref (X.2.2 97), .int a1] M (bI r) N := by
  intro sz
  refine K_of (Qc := (fun sz => QI X 0 (bI r) N sz)) (own := RX1) (lv0 := [(0, .ref (X.2.2 97)), (1, .int a1)]) (by decide +kernel) rfl (Nat.le_of_ble_eq_true rfl) rfl (fun p e s m args below meth c S => ?_) sz
  · unfold f_X1_readColumn at he
    refine z_iload_n S dX1_readColumn_0 rfl 1 rfl ?_
    rcases z_sw he with ⟨hk0, he⟩ | ⟨hk0, he⟩
    · refine z_tabIn (tgt := 28) S dX1_readColumn_1 hk0 (by decide) (by decide) rfl (by decide) ?_
      refine z_aload_n S dX1_readColumn_28 rfl 0 rfl ?_
      refine z_getW (i := 16) (j := 316) S (by decide) rfl rfl gw_RX1_127 dX1_readColumn_29 ?_
      refine z_iconst (v := 0) S dX1_readColumn_32 (by decide) ?_
      refine z_bipush (v := 99) S dX1_readColumn_33 (by decide) ?_
      obtain ⟨⟨r1, M2⟩, h9, he⟩ := bnd he
      dsimp only at he
      refine z_cVI (As := [.ref (X.2.2 316), .int 0, .int 99]) S cv_RX1_91 (K_X1_readNamed (isW_add (i := 16) (by decide)) h9) ok_97 (by decide) (q := (RX1, TX1, 2)) rfl rfl ⟨rfl, rfl⟩ ⟨Nat.le_of_ble_eq_true rfl, Nat.le_of_ble_eq_true rfl⟩ ⟨Nat.le_refl _, Nat.le_refl _⟩ rfl rfl (Nat.le_of_ble_eq_true rfl) dX1_readColumn_35 ?_
      exact z_zret S (Prod.mk.inj (Option.some.inj he)) dX1_readColumn_38
    rcases z_sw he with ⟨hk1, he⟩ | ⟨hk1, he⟩
    · refine z_tabIn (tgt := 39) S dX1_readColumn_1 hk1 (by decide) (by decide) rfl (by decide) ?_
      refine z_aload_n S dX1_readColumn_39 rfl 0 rfl ?_
      refine z_getW (i := 17) (j := 317) S (by decide) rfl rfl gw_RX1_130 dX1_readColumn_40 ?_
      refine z_iconst (v := 0) S dX1_readColumn_43 (by decide) ?_
      refine z_bipush (v := 9) S dX1_readColumn_44 (by decide) ?_
      obtain ⟨⟨r3, M4⟩, h9, he⟩ := bnd he
      dsimp only at he
      refine z_cVI (As := [.ref (X.2.2 317), .int 0, .int 9]) S cv_RX1_91 (K_X1_readNamed (isW_add (i := 17) (by decide)) h9) ok_97 (by decide) (q := (RX1, TX1, 2)) rfl rfl ⟨rfl, rfl⟩ ⟨Nat.le_of_ble_eq_true rfl, Nat.le_of_ble_eq_true rfl⟩ ⟨Nat.le_refl _, Nat.le_refl _⟩ rfl rfl (Nat.le_of_ble_eq_true rfl) dX1_readColumn_46 ?_
      exact z_zret S (Prod.mk.inj (Option.some.inj he)) dX1_readColumn_49
    rcases z_sw he with ⟨hk2, he⟩ | ⟨hk2, he⟩
    · refine z_tabIn (tgt := 50) S dX1_readColumn_1 hk2 (by decide) (by decide) rfl (by decide) ?_
      refine z_aload_n S dX1_readColumn_50 rfl 0 rfl ?_
      refine z_getW (i := 18) (j := 318) S (by decide) rfl rfl gw_RX1_133 dX1_readColumn_51 ?_
      refine z_iconst (v := 0) S dX1_readColumn_54 (by decide) ?_
      refine z_bipush (v := 9) S dX1_readColumn_55 (by decide) ?_
      obtain ⟨⟨r5, M6⟩, h9, he⟩ := bnd he
      dsimp only at he
      refine z_cVI (As := [.ref (X.2.2 318), .int 0, .int 9]) S cv_RX1_91 (K_X1_readNamed (isW_add (i := 18) (by decide)) h9) ok_97 (by decide) (q := (RX1, TX1, 2)) rfl rfl ⟨rfl, rfl⟩ ⟨Nat.le_of_ble_eq_true rfl, Nat.le_of_ble_eq_true rfl⟩ ⟨Nat.le_refl _, Nat.le_refl _⟩ rfl rfl (Nat.le_of_ble_eq_true rfl) dX1_readColumn_57 ?_
      exact z_zret S (Prod.mk.inj (Option.some.inj he)) dX1_readColumn_60
    refine z_tabOut (tgt := 61) S dX1_readColumn_1 (sw_out3 hk0 hk1 hk2) (by decide) ?_
    refine z_aload_n S dX1_readColumn_61 rfl 0 rfl ?_
    refine z_getW (i := 5) (j := 305) S (by decide) rfl rfl gw_RX1_136 dX1_readColumn_62 ?_
    refine z_iconst (v := 0) S dX1_readColumn_65 (by decide) ?_
    refine z_bipush (v := 100) S dX1_readColumn_66 (by decide) ?_
    obtain ⟨⟨r7, M8⟩, h9, he⟩ := bnd he
    dsimp only at he
    refine z_cVI (As := [.ref (X.2.2 305), .int 0, .int 100]) S cv_RX1_91 (K_X1_readNamed (isW_add (i := 5) (by decide)) h9) ok_97 (by decide) (q := (RX1, TX1, 2)) rfl rfl ⟨rfl, rfl⟩ ⟨Nat.le_of_ble_eq_true rfl, Nat.le_of_ble_eq_true rfl⟩ ⟨Nat.le_refl _, Nat.le_refl _⟩ rfl rfl (Nat.le_of_ble_eq_true rfl) dX1_readColumn_68 ?_
    exact z_zret S (Prod.mk.inj (Option.some.inj he)) dX1_readColumn_71
set_option maxRecDepth 100000 in
set_option maxHeartbeats 4000000 in
theorem K_X7_isLetter {X : Cx} {l : Launch} {M : Mm} {a0 : Int32} {r : Bool}  (he : f_X7_isLetter M a0 = r) : KI X 0 l yX7_isLetter (wz yX7_isLetter cX7_isLetter 1 (some .boolean)) rm_X7_isLetter [.int a0] M (bI r) M := by
  intro sz
  refine K_of (Qc := (fun sz => QI X 0 (bI r) M sz)) (own := RX7) (lv0 := [(0, .int a0)]) (by decide +kernel) rfl (Nat.le_of_ble_eq_true rfl) rfl (fun p e s m args below meth c S => ?_) sz
  · unfold f_X7_isLetter at he
    refine z_iload_n S dX7_isLetter_0 rfl 0 rfl ?_
    refine z_bipush (v := 97) S dX7_isLetter_1 (by decide) ?_
    refine z_icmp_lt (tgt := 16) S he dX7_isLetter_3 (by decide) (fun he => ?_) (fun he => ?_)
    · refine z_iconst (v := 0) S dX7_isLetter_16 (by decide) ?_
      exact z_zret0 S (⟨he, rfl⟩) dX7_isLetter_17
    · refine z_iload_n S dX7_isLetter_6 rfl 0 rfl ?_
      refine z_bipush (v := 122) S dX7_isLetter_7 (by decide) ?_
      refine z_icmp_gt (tgt := 16) S he dX7_isLetter_9 (by decide) (fun he => ?_) (fun he => ?_)
      · refine z_iconst (v := 0) S dX7_isLetter_16 (by decide) ?_
        exact z_zret0 S (⟨he, rfl⟩) dX7_isLetter_17
      · refine z_iconst (v := 1) S dX7_isLetter_12 (by decide) ?_
        refine z_goto (tgt := 17) S dX7_isLetter_13 (by decide) ?_
        exact z_zret1 S (⟨he, rfl⟩) dX7_isLetter_17
set_option maxRecDepth 100000 in
set_option maxHeartbeats 4000000 in
theorem p_X7_endOfLetters_L2 {X : Cx} {p : Program} {l : Launch} {e : Env} {s : State} {m : MethodId} {args : Array Value} {below : List Frame} {meth : Method} {c : Code} (S : SB X 0 p s m args meth c cX7_endOfLetters 4 (some .int) RX7) {M : Mm} {r : Int32} {v0 : Nat} {v2 : Int32} {v3 : Int32} {x : Int32 ⊕ Int32} (h_v0 : OK 0 v0 30) (he : f_X7_endOfLetters_L2 M v0 v2 v3 = some x) (hc : ∀ b, x = .inl b → Z X 0 p l e rm_X7_endOfLetters s m args below meth c 0 0 (MQ below (QI X 0 r M s.heap.size) args s 0 0 (AA X 0 s.heap.size)) 4 M 2 [(0, .ref (X.2.2 v0)), (2, .int v2), (3, .int b)] []) (hx : ∀ b, x = .inr b → Z X 0 p l e rm_X7_endOfLetters s m args below meth c 0 0 (MQ below (QI X 0 r M s.heap.size) args s 0 0 (AA X 0 s.heap.size)) 4 M 24 [(3, .int b)] []) : Z X 0 p l e rm_X7_endOfLetters s m args below meth c 0 0 (MQ below (QI X 0 r M s.heap.size) args s 0 0 (AA X 0 s.heap.size)) 4 M 2 [(0, .ref (X.2.2 v0)), (2, .int v2), (3, .int v3)] [] := by
  unfold f_X7_endOfLetters_L2 at he
  refine z_iload_n S dX7_endOfLetters_2 rfl 2 rfl ?_
  refine z_iload_n S dX7_endOfLetters_3 rfl 1 rfl ?_
  refine z_icmp_ge (tgt := 24) S he dX7_endOfLetters_4 (by decide) (fun he => ?_) (fun he => ?_)
  · refine z_lv (ks := [2]) rfl ?_
    exact hx _ (Option.some.inj he).symm
  · refine z_aload_n S dX7_endOfLetters_7 rfl 0 rfl ?_
    refine z_iload_n S dX7_endOfLetters_8 rfl 2 rfl ?_
    refine z_cNI (As := [.ref (X.2.2 v0), .int v3]) S cn_RX7_38 (Kt_X9_at h_v0 rfl) ⟨rfl, rfl⟩ ⟨Nat.le_of_ble_eq_true rfl, Nat.le_of_ble_eq_true rfl⟩ ⟨Nat.le_refl _, Nat.le_refl _⟩ rfl rfl (Nat.le_of_ble_eq_true rfl) dX7_endOfLetters_9 ?_
    refine z_cSI (As := [.int (t_X9_at M v0 v3)]) S cs_RX7_42 (K_X7_isLetter  rfl) ⟨rfl, rfl⟩ ⟨Nat.le_of_ble_eq_true rfl, Nat.le_of_ble_eq_true rfl⟩ ⟨Nat.le_refl _, Nat.le_refl _⟩ rfl rfl (Nat.le_of_ble_eq_true rfl) dX7_endOfLetters_12 ?_
    refine z_ifb_eq (tgt := 24) S he dX7_endOfLetters_15 (by decide) (fun he => ?_) (fun he => ?_)
    · refine z_lv (ks := [2]) rfl ?_
      exact hx _ (Option.some.inj he).symm
    · refine z_iinc (v := (v3 + 1)) (lv' := [(0, .ref (X.2.2 v0)), (2, .int v2), (3, .int (v3 + 1))]) S [1, 2, 0] 2 dX7_endOfLetters_18 rfl (by rfl) (by decide) rfl ?_
      refine z_goto (tgt := 2) S dX7_endOfLetters_21 (by decide) ?_
      refine z_lv (ks := [0, 1, 2]) rfl ?_
      exact hc _ (Option.some.inj he).symm
set_option maxRecDepth 100000 in
set_option maxHeartbeats 4000000 in
theorem K_X7_endOfLetters {X : Cx} {l : Launch} {M : Mm} {a0 : Nat} {a1 : Int32} {a2 : Int32} {r : Int32} (h_a0 : OK 0 a0 30) (he : f_X7_endOfLetters M a0 a1 a2 = some r) : KI X 0 l yX7_endOfLetters (wz yX7_endOfLetters cX7_endOfLetters 4 (some .int)) rm_X7_endOfLetters [.ref (X.2.2 a0), .int a1, .int a2] M r M := by
  intro sz
  refine K_of (Qc := (fun sz => QI X 0 r M sz)) (own := RX7) (lv0 := [(0, .ref (X.2.2 a0)), (1, .int a1), (2, .int a2)]) (by decide +kernel) rfl (Nat.le_of_ble_eq_true rfl) rfl (fun p e s m args below meth c S => ?_) sz
  · unfold f_X7_endOfLetters at he
    refine z_iload_n S dX7_endOfLetters_0 rfl 1 rfl ?_
    refine z_istore_n (lv' := [(0, .ref (X.2.2 a0)), (2, .int a2), (3, .int a1)]) S [1, 3, 0] dX7_endOfLetters_1 rfl (by decide) rfl ?_
    obtain ⟨e_1, hl, he⟩ := bnd he
    have hX : Z X 0 p l e rm_X7_endOfLetters s m args below meth c 0 0 (MQ below (QI X 0 r M s.heap.size) args s 0 0 (AA X 0 s.heap.size)) 4 M 24 [(3, .int e_1)] [] := by
      refine z_iload_n S dX7_endOfLetters_24 rfl 0 rfl ?_
      exact z_iret S (⟨Option.some.inj he, rfl⟩) dX7_endOfLetters_25
    exact loopZ (Zh := (fun a_1 => Z X 0 p l e rm_X7_endOfLetters s m args below meth c 0 0 (MQ below (QI X 0 r M s.heap.size) args s 0 0 (AA X 0 s.heap.size)) 4 M 2 [(0, .ref (X.2.2 a0)), (2, .int a2), (3, .int a_1)] [])) (fun a_1 x hb hc hr => p_X7_endOfLetters_L2 S h_a0 hb hc (fun b hxe => by rw [hr b hxe]; exact hX)) FU _ hl
set_option maxRecDepth 100000 in
set_option maxHeartbeats 4000000 in
theorem p_X7_marksOf_L5 {X : Cx} {p : Program} {l : Launch} {e : Env} {s : State} {m : MethodId} {args : Array Value} {below : List Frame} {meth : Method} {c : Code} (S : SB X 0 p s m args meth c cX7_marksOf 6 (some .int) RX7) {M : Mm} {r : Int32} {v0 : Nat} {v2 : Int32} {v3 : Int32} {v4 : Int32} {x : (Int32 × Int32) ⊕ ((Int32) ⊕ Int32)} (h_v0 : OK 0 v0 30) (he : f_X7_marksOf_L5 M v0 v2 v3 v4 = some x) (hc : ∀ b, x = .inl b → Z X 0 p l e rm_X7_marksOf s m args below meth c 0 0 (MQ below (QI X 0 r M s.heap.size) args s 0 0 (AA X 0 s.heap.size)) 6 M 5 [(0, .ref (X.2.2 v0)), (2, .int v2), (3, .int b.1), (4, .int b.2)] []) (hx : ∀ b, x = .inr (.inr b) → Z X 0 p l e rm_X7_marksOf s m args below meth c 0 0 (MQ below (QI X 0 r M s.heap.size) args s 0 0 (AA X 0 s.heap.size)) 6 M 54 [(3, .int b)] []) (hr : ∀ v, x = .inr (.inl v) → v = r) : Z X 0 p l e rm_X7_marksOf s m args below meth c 0 0 (MQ below (QI X 0 r M s.heap.size) args s 0 0 (AA X 0 s.heap.size)) 6 M 5 [(0, .ref (X.2.2 v0)), (2, .int v2), (3, .int v3), (4, .int v4)] [] := by
  unfold f_X7_marksOf_L5 at he
  refine z_iload S dX7_marksOf_5 3 rfl ?_
  refine z_iload_n S dX7_marksOf_7 rfl 1 rfl ?_
  refine z_icmp_ge (tgt := 54) S he dX7_marksOf_8 (by decide) (fun he => ?_) (fun he => ?_)
  · refine z_lv (ks := [2]) rfl ?_
    exact hx _ (Option.some.inj he).symm
  · refine z_aload_n S dX7_marksOf_11 rfl 0 rfl ?_
    refine z_iload S dX7_marksOf_12 3 rfl ?_
    refine z_cNI (As := [.ref (X.2.2 v0), .int v4]) S cn_RX7_38 (Kt_X9_at h_v0 rfl) ⟨rfl, rfl⟩ ⟨Nat.le_of_ble_eq_true rfl, Nat.le_of_ble_eq_true rfl⟩ ⟨Nat.le_refl _, Nat.le_refl _⟩ rfl rfl (Nat.le_of_ble_eq_true rfl) dX7_marksOf_14 ?_
    refine z_bipush (v := 97) S dX7_marksOf_17 (by decide) ?_
    refine z_isub S dX7_marksOf_19 ?_
    refine z_istore (lv' := [(0, .ref (X.2.2 v0)), (2, .int v2), (3, .int v3), (4, .int v4), (5, .int ((t_X9_at M v0 v4) - 97))]) S [1, 2, 3, 4, 0] dX7_marksOf_20 (by decide) rfl ?_
    refine z_iload S dX7_marksOf_22 4 rfl ?_
    refine z_bipush (v := 6) S dX7_marksOf_24 (by decide) ?_
    refine z_icmp_ge (tgt := 39) S he dX7_marksOf_26 (by decide) (fun he => ?_) (fun he => ?_)
    · refine z_iconst (v := (-1)) S dX7_marksOf_39 (by decide) ?_
      exact z_iret S (⟨hr _ (Option.some.inj he).symm, rfl⟩) dX7_marksOf_40
    · refine z_iload_n S dX7_marksOf_29 rfl 2 rfl ?_
      refine z_iload S dX7_marksOf_30 4 rfl ?_
      refine z_ishr S dX7_marksOf_32 ?_
      refine z_iconst (v := 1) S dX7_marksOf_33 (by decide) ?_
      refine z_iand S dX7_marksOf_34 ?_
      refine z_iconst (v := 1) S dX7_marksOf_35 (by decide) ?_
      refine z_icmp_ne (tgt := 41) S he dX7_marksOf_36 (by decide) (fun he => ?_) (fun he => ?_)
      · refine z_iload_n S dX7_marksOf_41 rfl 2 rfl ?_
        refine z_iconst (v := 1) S dX7_marksOf_42 (by decide) ?_
        refine z_iload S dX7_marksOf_43 4 rfl ?_
        refine z_ishl S dX7_marksOf_45 ?_
        refine z_ior S dX7_marksOf_46 ?_
        obtain ⟨x1, ex1, he⟩ := bnd he
        rw [Option.some.inj ex1]
        refine z_istore_n (lv' := [(0, .ref (X.2.2 v0)), (2, .int v2), (3, .int x1), (4, .int v4)]) S [1, 2, 0, 3] dX7_marksOf_47 rfl (by decide) rfl ?_
        refine z_iinc (v := (v4 + 1)) (lv' := [(0, .ref (X.2.2 v0)), (2, .int v2), (3, .int x1), (4, .int (v4 + 1))]) S [1, 2, 3, 0] 3 dX7_marksOf_48 rfl (by rfl) (by decide) rfl ?_
        refine z_goto (tgt := 5) S dX7_marksOf_51 (by decide) ?_
        refine z_lv (ks := [0, 1, 2, 3]) rfl ?_
        exact hc _ (Option.some.inj he).symm
      · refine z_iconst (v := (-1)) S dX7_marksOf_39 (by decide) ?_
        exact z_iret S (⟨hr _ (Option.some.inj he).symm, rfl⟩) dX7_marksOf_40
set_option maxRecDepth 100000 in
set_option maxHeartbeats 4000000 in
theorem K_X7_marksOf {X : Cx} {l : Launch} {M : Mm} {a0 : Nat} {a1 : Int32} {a2 : Int32} {r : Int32} (h_a0 : OK 0 a0 30) (he : f_X7_marksOf M a0 a1 a2 = some r) : KI X 0 l yX7_marksOf (wz yX7_marksOf cX7_marksOf 6 (some .int)) rm_X7_marksOf [.ref (X.2.2 a0), .int a1, .int a2] M r M := by
  intro sz
  refine K_of (Qc := (fun sz => QI X 0 r M sz)) (own := RX7) (lv0 := [(0, .ref (X.2.2 a0)), (1, .int a1), (2, .int a2)]) (by decide +kernel) rfl (Nat.le_of_ble_eq_true rfl) rfl (fun p e s m args below meth c S => ?_) sz
  · unfold f_X7_marksOf at he
    refine z_iconst (v := 0) S dX7_marksOf_0 (by decide) ?_
    refine z_istore_n (lv' := [(0, .ref (X.2.2 a0)), (1, .int a1), (2, .int a2), (3, .int 0)]) S [1, 2, 3, 0] dX7_marksOf_1 rfl (by decide) rfl ?_
    refine z_iload_n S dX7_marksOf_2 rfl 1 rfl ?_
    refine z_istore (lv' := [(0, .ref (X.2.2 a0)), (2, .int a2), (3, .int 0), (4, .int a1)]) S [1, 3, 4, 0] dX7_marksOf_3 (by decide) rfl ?_
    obtain ⟨r9, hl, hr1, hr2⟩ := bndS he
    have hX : ∀ e_2, r9 = .inr e_2 → Z X 0 p l e rm_X7_marksOf s m args below meth c 0 0 (MQ below (QI X 0 r M s.heap.size) args s 0 0 (AA X 0 s.heap.size)) 6 M 54 [(3, .int e_2)] [] := by
      intro e_2 hre
      have he := hr2 e_2 hre
      refine z_iload_n S dX7_marksOf_54 rfl 0 rfl ?_
      exact z_iret S (⟨Option.some.inj he, rfl⟩) dX7_marksOf_55
    exact loopZ (Zh := (fun a_2 => Z X 0 p l e rm_X7_marksOf s m args below meth c 0 0 (MQ below (QI X 0 r M s.heap.size) args s 0 0 (AA X 0 s.heap.size)) 6 M 5 [(0, .ref (X.2.2 a0)), (2, .int a2), (3, .int a_2.1), (4, .int a_2.2)] [])) (fun a_2 x hb hc hr9 => p_X7_marksOf_L5 S h_a0 hb hc (fun b hxe => hX b (hr9 _ hxe).symm) (fun v hxv => Option.some.inj (hr1 v (hr9 _ hxv).symm))) FU _ hl
